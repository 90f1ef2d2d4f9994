/** Promises 11 to 13: sequences, length, extract. */
public final class SequencesTest {
  private static final Checks CHECKS = new Checks();
  private static final int[] WRONG = {-1, -2, Integer.MIN_VALUE, Integer.MAX_VALUE, 97, 98, 1000};
  private static final String[] TEXTS = {"", "a", "|", "|||", "|a|", "a||b|", "abcdefgh", "abcdefghi|abcdefg",
      "x|yz".repeat(24), "q".repeat(96), "|".repeat(96), "abcdefghijklmnopqrstuvwxyz|".repeat(3)};

  public static void main(String[] args) {
    for (String text : TEXTS) {
      for (int step = 1; step <= 17; step++) {
        PlainModel model = new PlainModel(step, text);
        compare(Checks.built(step, text), model);
        compare(loaded(step, model), model);
      }
    }
    theNextIndexTakesThePlaceOfTheLast();
    CHECKS.end();
  }

  private static SelfIndexedSequences loaded(int step, PlainModel model) {
    SelfIndexedSequences x = new SelfIndexedSequences(step);
    Checks.putAll(x, model.image());
    CHECKS.due("load() of the image of " + model.text, x.load(), true);
    return x;
  }

  private static void compare(SelfIndexedSequences x, PlainModel model) {
    CHECKS.due("sequences() of " + model.text, x.sequences(), model.sequences.size());
    for (int s = -1; s <= model.sequences.size() + 1; s++) {
      CHECKS.due("length(" + s + ") of " + model.text, x.length(s), model.length(s));
      for (int offset = -2; offset <= model.length(s) + 9; offset++) {
        CHECKS.due("extract(" + s + ", " + offset + ") of " + model.text, x.extract(s, offset), model.extract(s, offset));
      }
    }
    for (int wrong : WRONG) {
      CHECKS.due("length(" + wrong + ") of " + model.text, x.length(wrong), -1);
      CHECKS.due("extract(" + wrong + ", 0) of " + model.text, x.extract(wrong, 0), 0L);
      CHECKS.due("extract(0, " + wrong + ") of " + model.text, x.extract(0, wrong), 0L);
      CHECKS.due("extract(" + wrong + ", " + wrong + ") of " + model.text, x.extract(wrong, wrong), 0L);
    }
  }

  private static void theNextIndexTakesThePlaceOfTheLast() {
    SelfIndexedSequences x = new SelfIndexedSequences(3);
    for (String text : TEXTS) {
      Checks.putAll(x, text);
      CHECKS.due("build() of " + text, x.build(), new PlainModel(3, text).sequences.size());
      compare(x, new PlainModel(3, text));
    }
  }
}
