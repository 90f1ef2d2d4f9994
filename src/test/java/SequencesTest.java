/** Promises 11 to 13 (sequences, length, extract): each sentence has a test here. */
public final class SequencesTest {
  private static final Checks CHECKS = new Checks();
  private static final int[] FAR = {-1, -2, -97, Integer.MIN_VALUE, Integer.MIN_VALUE + 1, Integer.MAX_VALUE - 96,
      Integer.MAX_VALUE - 1, Integer.MAX_VALUE, 97, 98, 1000};
  private static final String[] TEXTS = {"", "a", "|", "|||", "|a|", "a||b|", "abcdefgh", "abcdefghi|abcdefg",
      "x|yz".repeat(24), "q".repeat(96), "|".repeat(96), "abcdefghijklmnopqrstuvwxyz|".repeat(3)};

  public static void main(String[] args) {
    sequencesThere();
    sequencesOfNone();
    lengthInLetters();
    lengthOfEmptyAndLongest();
    lengthOfNone();
    extractUpToEight();
    extractLowestFirst();
    zeroBehindTheEnd();
    extractStaysInItsSequence();
    extractOfNoSequence();
    extractOfNoLetter();
    likeTheModel();
    CHECKS.end();
  }

  private static void sequencesThere() {
    CHECKS.sentence("11: How many sequences there are");
    for (int bars = 0; bars <= 96; bars++) {
      CHECKS.due("sequences() of " + bars + " bars", Checks.built(4, "|".repeat(bars)).sequences(), bars + 1);
      CHECKS.due("sequences() of " + bars + " loaded bars", Checks.loaded(4, "|".repeat(bars) + "$").sequences(), bars + 1);
    }
    CHECKS.due("sequences() of a||b|c", Checks.built(4, "a||b|c").sequences(), 4);
    SelfIndexedSequences x = Checks.built(4, "a|b|c");
    CHECKS.due("build() of nothing", x.build(), 1);
    CHECKS.due("sequences() of nothing", x.sequences(), 1);
  }

  private static void sequencesOfNone() {
    CHECKS.sentence("11: How many sequences there are, without an index");
    SelfIndexedSequences x = Checks.drafted(4, "a|b$");
    CHECKS.due("sequences() without index", x.sequences(), 0);
    x.build();
    CHECKS.due("sequences() after a refused build()", x.sequences(), 0);
  }

  private static void lengthInLetters() {
    CHECKS.sentence("12: How many letters a sequence has");
    SelfIndexedSequences x = Checks.built(4, "abc|de||f");
    int[] due = {3, 2, 0, 1};
    for (int s = 0; s < due.length; s++) {
      CHECKS.due("length(" + s + ") of abc|de||f", x.length(s), due[s]);
    }
    SelfIndexedSequences y = Checks.loaded(4, "abrda$|");
    CHECKS.due("length(0) of dab|ra", y.length(0), 3);
    CHECKS.due("length(1) of dab|ra", y.length(1), 2);
  }

  private static void lengthOfEmptyAndLongest() {
    CHECKS.sentence("12: How many letters: from none to 96");
    CHECKS.due("length(0) of nothing", Checks.built(4, "").length(0), 0);
    CHECKS.due("length(0) of |", Checks.built(4, "|").length(0), 0);
    CHECKS.due("length(1) of |", Checks.built(4, "|").length(1), 0);
    CHECKS.due("length(96) of 96 bars", Checks.built(4, "|".repeat(96)).length(96), 0);
    CHECKS.due("length(95) of 95 bars and a", Checks.built(4, "|".repeat(95) + "a").length(95), 1);
    CHECKS.due("length(0) of 96 letters", Checks.built(4, "q".repeat(96)).length(0), 96);
    CHECKS.due("length(1) of | and 95 letters", Checks.built(4, "|" + "q".repeat(95)).length(1), 95);
    CHECKS.due("length(0) of 95 letters and |", Checks.built(4, "q".repeat(95) + "|").length(0), 95);
  }

  private static void lengthOfNone() {
    CHECKS.sentence("12: NONE when there is none");
    for (String text : new String[] {"", "a", "|", "a|b|c", "|".repeat(96)}) {
      SelfIndexedSequences x = Checks.built(4, text);
      int sequences = x.sequences();
      CHECKS.due("length(last) of " + text, x.length(sequences - 1) >= 0, true);
      CHECKS.due("length(sequences()) of " + text, x.length(sequences), -1);
      for (int s : FAR) {
        CHECKS.due("length(" + s + ") of " + text, x.length(s), -1);
      }
    }
    SelfIndexedSequences x = Checks.built(4, "a|b|c");
    x.build();
    CHECKS.due("length(1) of nothing where a|b|c was", x.length(1), -1);
    CHECKS.due("length(0) without index", new SelfIndexedSequences(4).length(0), -1);
  }

  private static void extractUpToEight() {
    CHECKS.sentence("13: Up to eight letters of a sequence from an offset on");
    SelfIndexedSequences x = Checks.built(4, "abcdefghijkl");
    String[] due = {"abcdefgh", "bcdefghi", "cdefghij", "defghijk", "efghijkl", "fghijkl", "ghijkl", "hijkl", "ijkl", "jkl", "kl", "l"};
    for (int offset = 0; offset < due.length; offset++) {
      CHECKS.due("extract(0, " + offset + ")", Checks.letters(x.extract(0, offset)), due[offset]);
    }
  }

  private static void extractLowestFirst() {
    CHECKS.sentence("13: the first in the lowest byte");
    SelfIndexedSequences x = Checks.built(4, "abcdefgh");
    CHECKS.due("extract(0, 0)", x.extract(0, 0), 0x6867666564636261L);
    CHECKS.due("extract(0, 6)", x.extract(0, 6), 0x6867L);
    CHECKS.due("extract(0, 0) of zzzzzzzz", Checks.built(4, "z".repeat(9)).extract(0, 0), 0x7A7A7A7A7A7A7A7AL);
  }

  private static void zeroBehindTheEnd() {
    CHECKS.sentence("13: 0 in the bytes behind its end");
    for (int n = 1; n <= 96; n++) {
      SelfIndexedSequences x = Checks.built(4, "y".repeat(n));
      CHECKS.due("last letter of " + n, x.extract(0, n - 1), 'y');
      if (n >= 7) {
        CHECKS.due("last seven letters of " + n, x.extract(0, n - 7), Checks.word("yyyyyyy"));
      }
      if (n >= 8) {
        CHECKS.due("last eight letters of " + n, x.extract(0, n - 8), Checks.word("yyyyyyyy"));
      }
    }
  }

  private static void extractStaysInItsSequence() {
    CHECKS.sentence("13: letters of a sequence, and not of the next one");
    SelfIndexedSequences x = Checks.built(3, "abc||de|fghijklmno");
    CHECKS.due("extract(0, 0)", x.extract(0, 0), Checks.word("abc"));
    CHECKS.due("extract(0, 2)", x.extract(0, 2), Checks.word("c"));
    CHECKS.due("extract(1, 0)", x.extract(1, 0), 0L);
    CHECKS.due("extract(2, 1)", x.extract(2, 1), Checks.word("e"));
    CHECKS.due("extract(3, 0)", x.extract(3, 0), Checks.word("fghijklm"));
    CHECKS.due("extract(3, 3)", x.extract(3, 3), Checks.word("ijklmno"));
  }

  private static void extractOfNoSequence() {
    CHECKS.sentence("13: 0 when there is no such sequence");
    for (String text : new String[] {"", "a", "a|b|c", "a|".repeat(48)}) {
      SelfIndexedSequences x = Checks.built(4, text);
      CHECKS.due("extract(sequences(), 0) of " + text, x.extract(x.sequences(), 0), 0L);
      for (int s : FAR) {
        CHECKS.due("extract(" + s + ", 0) of " + text, x.extract(s, 0), 0L);
        CHECKS.due("extract(" + s + ", -1) of " + text, x.extract(s, -1), 0L);
        CHECKS.due("extract(" + s + ", " + s + ") of " + text, x.extract(s, s), 0L);
      }
    }
    SelfIndexedSequences x = Checks.built(4, "a|b|c");
    x.build();
    CHECKS.due("extract(2, 0) of nothing where a|b|c was", x.extract(2, 0), 0L);
    CHECKS.due("extract(0, 0) without index", new SelfIndexedSequences(4).extract(0, 0), 0L);
  }

  private static void extractOfNoLetter() {
    CHECKS.sentence("13: 0 when there is no such letter");
    SelfIndexedSequences x = Checks.built(4, "abc||de");
    CHECKS.due("extract(0, 3), where the | is", x.extract(0, 3), 0L);
    CHECKS.due("extract(0, 4)", x.extract(0, 4), 0L);
    CHECKS.due("extract(0, 5), where d is", x.extract(0, 5), 0L);
    CHECKS.due("extract(1, 0) of the empty one", x.extract(1, 0), 0L);
    CHECKS.due("extract(1, -1)", x.extract(1, -1), 0L);
    CHECKS.due("extract(2, -1)", x.extract(2, -1), 0L);
    CHECKS.due("extract(2, -3), where c is", x.extract(2, -3), 0L);
    CHECKS.due("extract(2, 2) behind the text", x.extract(2, 2), 0L);
    for (int offset : FAR) {
      CHECKS.due("extract(0, " + offset + ")", x.extract(0, offset), 0L);
      CHECKS.due("extract(2, " + offset + ")", x.extract(2, offset), 0L);
    }
    CHECKS.due("extract(0, 96) of 96 letters", Checks.built(4, "q".repeat(96)).extract(0, 96), 0L);
    CHECKS.due("extract(0, 0) of nothing", Checks.built(4, "").extract(0, 0), 0L);
  }

  private static void likeTheModel() {
    CHECKS.sentence("11 to 13, compared with the plain model");
    for (String text : TEXTS) {
      for (int step = 1; step <= 17; step++) {
        PlainModel model = new PlainModel(step, text);
        for (int s = -1; s <= model.sequences.size(); s++) {
          compare(Checks.built(step, text), model, s);
          compare(Checks.loaded(step, model.image()), model, s);
        }
      }
    }
  }

  private static void compare(SelfIndexedSequences x, PlainModel model, int s) {
    CHECKS.due("sequences() of " + model.text, x.sequences(), model.sequences.size());
    CHECKS.due("length(" + s + ") of " + model.text, x.length(s), model.length(s));
    for (int offset = -2; offset <= model.length(s) + 9; offset++) {
      CHECKS.due("extract(" + s + ", " + offset + ") of " + model.text, x.extract(s, offset), model.extract(s, offset));
    }
  }
}
