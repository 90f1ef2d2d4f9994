/** Promises 6 to 10: size, image, rank, suffix, walk. */
public final class ImageTest {
  private static final Checks CHECKS = new Checks();
  private static final int[] WRONG = {-1, -2, -8, Integer.MIN_VALUE, Integer.MAX_VALUE, 1 << 29, 1 << 28, -(1 << 29)};
  private static final String[] TEXTS = {"", "a", "|", "|a|", "banana", "z|y|x||z", "abababa", "abcdefgh|abcdefg",
      "ab|".repeat(32), "a".repeat(96), "|".repeat(96), "zyxwvutsrqponmlkjihgfedcba|abcdefghijklmnopqrstuvwxyz"};

  public static void main(String[] args) {
    for (String text : TEXTS) {
      for (int step : new int[] {2, 5, 16}) {
        SelfIndexedSequences x = Checks.built(step, text);
        PlainModel model = new PlainModel(step, text);
        promise6(x, model);
        promise7(x, model);
        promise8(x, model);
        promises9And10(x, model);
      }
    }
    barComesBeforeLetters();
    wrongCodes();
    CHECKS.end();
  }

  private static void promise6(SelfIndexedSequences x, PlainModel model) {
    CHECKS.due("size() of " + model.text, x.size(), model.text.length() + 1);
  }

  private static void promise7(SelfIndexedSequences x, PlainModel model) {
    for (int k = -3; k <= 15; k++) {
      CHECKS.due("image(" + k + ") of " + model.text, x.image(k), model.imageWord(k));
    }
    for (int k : WRONG) {
      CHECKS.due("image(" + k + ") of " + model.text, x.image(k), 0L);
    }
  }

  private static void promise8(SelfIndexedSequences x, PlainModel model) {
    for (char symbol : new char[] {'$', '|', 'a', 'b', 'y', 'z'}) {
      for (int i = -2; i <= x.size() + 2; i++) {
        CHECKS.due("rank(" + symbol + ", " + i + ") of " + model.text, x.rank(symbol, i), model.rank(symbol, i));
      }
      for (int i : WRONG) {
        CHECKS.due("rank(" + symbol + ", " + i + ") of " + model.text, x.rank(symbol, i), -1);
      }
    }
  }

  private static void promises9And10(SelfIndexedSequences x, PlainModel model) {
    for (int k = -2; k <= x.size() + 2; k++) {
      CHECKS.due("suffix(" + k + ") of " + model.text, x.suffix(k), model.suffix(k));
      CHECKS.due("walk(" + k + ") of " + model.text, x.walk(k), model.walk(k));
    }
    for (int k : WRONG) {
      CHECKS.due("suffix(" + k + ") of " + model.text, x.suffix(k), -1);
      CHECKS.due("walk(" + k + ") of " + model.text, x.walk(k), -1);
    }
  }

  /** By their codes the | would come last; the document puts it before a. */
  private static void barComesBeforeLetters() {
    SelfIndexedSequences x = Checks.built(4, "a|z");
    CHECKS.due("suffix(1) of a|z", x.suffix(1), 1);
    CHECKS.due("image(0) of a|z", x.image(0), Checks.word("za$|"));
  }

  private static void wrongCodes() {
    SelfIndexedSequences x = Checks.built(4, "az|b");
    for (int code = -300; code <= 600; code++) {
      boolean symbol = code == '$' || code == '|' || code >= 'a' && code <= 'z';
      CHECKS.due("rank(" + code + ", 0)", x.rank(code, 0), symbol ? 0 : -1);
      boolean there = symbol && "$|azb".indexOf((char) code) >= 0;
      CHECKS.due("rank(" + code + ", 5)", x.rank(code, 5), there ? 1 : symbol ? 0 : -1);
    }
    CHECKS.due("rank(MIN_VALUE, 0)", x.rank(Integer.MIN_VALUE, 0), -1);
    CHECKS.due("rank(MAX_VALUE, 0)", x.rank(Integer.MAX_VALUE, 0), -1);
  }
}
