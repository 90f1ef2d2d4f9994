import java.util.List;

/** Promises 14 to 17: count, place, matches, match. */
public final class PatternTest {
  private static final Checks CHECKS = new Checks();
  private static final String[] PATTERNS = {"a", "z", "aa", "ab", "ba", "abc", "abab", "aaaaaaaa", "abcdefgh",
      "hgfedcba", "abcdxfgh", "bcdefgha", "zzzzzzzz", "xyz", "abcd"};
  private static final String[] TEXTS = {"", "a", "|", "|a|", "ab|ab", "a|b", "abababab", "aaaaaaaaa|aaaaaaaa|aaaaaaa",
      "abcdefgh|abcdegh|abcdeefgh|abcdxfgh|bacdefgh", "ab|".repeat(32), "a".repeat(96), "|".repeat(96),
      "|".repeat(95) + "a", "a|".repeat(48), "abcdefgh".repeat(12)};

  public static void main(String[] args) {
    for (String text : TEXTS) {
      for (int step : new int[] {2, 4, 16}) {
        SelfIndexedSequences x = Checks.built(step, text);
        PlainModel model = new PlainModel(step, text);
        for (String pattern : PATTERNS) {
          promises14And15(x, model, pattern);
          promises16And17(x, model, pattern);
        }
        wrongPatterns(x);
      }
    }
    farSequences();
    knownDistances();
    CHECKS.end();
  }

  private static void promises14And15(SelfIndexedSequences x, PlainModel model, String pattern) {
    List<Integer> due = model.occurrences(pattern);
    String of = pattern + " in " + model.text;
    long word = Checks.word(pattern);
    CHECKS.due("count " + of, x.count(word), due.size());
    for (int i = 0; i < due.size(); i++) {
      CHECKS.due("place " + i + " of " + of, x.place(word, i), due.get(i));
    }
    for (int i : new int[] {-1, due.size(), due.size() + 1, Integer.MAX_VALUE, Integer.MIN_VALUE}) {
      CHECKS.due("place " + i + " of " + of, x.place(word, i), -1);
    }
  }

  private static void promises16And17(SelfIndexedSequences x, PlainModel model, String pattern) {
    long word = Checks.word(pattern);
    for (int k = 0; k <= 4; k++) {
      List<Integer> due = model.matches(pattern, k);
      String of = pattern + " with " + k + " in " + model.text;
      CHECKS.due("matches of " + of, x.matches(word, k), due.size());
      for (int i = 0; i < due.size(); i++) {
        CHECKS.due("match " + i + " of " + of, x.match(word, k, i), due.get(i));
      }
      for (int i : new int[] {-1, due.size(), due.size() + 1, Integer.MAX_VALUE, Integer.MIN_VALUE}) {
        CHECKS.due("match " + i + " of " + of, x.match(word, k, i), -1);
      }
    }
    for (int k : new int[] {-1, 5, 6, 8, Integer.MAX_VALUE, Integer.MIN_VALUE}) {
      CHECKS.due("matches of " + pattern + " with " + k, x.matches(word, k), -1);
      CHECKS.due("match of " + pattern + " with " + k, x.match(word, k, 0), -1);
    }
  }

  private static void wrongPatterns(SelfIndexedSequences x) {
    String[] wrong = {"", "\0a", "a\0b", "a\0\0\0\0\0\0b", "\0\0\0\0\0\0\0a", "|", "$", "a|", "|a", "a$", "a|b", "A", "aB",
        "`", "{", "a{", "\u00e1", "a\u00ff", "abcdefg|", "abcdefg\u00e1", " ", "\1"};
    for (String pattern : wrong) {
      long word = Checks.word(pattern);
      CHECKS.due("count of no pattern " + word, x.count(word), -1);
      CHECKS.due("place of no pattern " + word, x.place(word, 0), -1);
      CHECKS.due("matches of no pattern " + word, x.matches(word, 4), -1);
      CHECKS.due("match of no pattern " + word, x.match(word, 4, 0), -1);
    }
    CHECKS.due("count(-1)", x.count(-1L), -1);
    CHECKS.due("count(MIN_VALUE)", x.count(Long.MIN_VALUE), -1);
    CHECKS.due("matches(MIN_VALUE, 0)", x.matches(Long.MIN_VALUE, 0), -1);
  }

  private static void farSequences() {
    SelfIndexedSequences x = Checks.built(4, "|".repeat(95) + "a");
    CHECKS.due("place(a, 0)", x.place('a', 0), 9500);
    CHECKS.due("match(a, 0, 0)", x.match('a', 0, 0), 950010);
    CHECKS.due("match(a, 1, 95)", x.match('a', 1, 95), 950001);
    CHECKS.due("match(a, 1, 96)", x.match('a', 1, 96), 950010);
    SelfIndexedSequences y = Checks.built(4, "|".repeat(96));
    CHECKS.due("match(a, 1, 96)", y.match('a', 1, 96), 960001);
    SelfIndexedSequences z = Checks.built(4, "b".repeat(95) + "a");
    CHECKS.due("place(a, 0)", z.place('a', 0), 95);
    CHECKS.due("match(a, 0, 0)", z.match('a', 0, 0), 960);
  }

  /** Written out by hand, so that they do not lean on the model. */
  private static void knownDistances() {
    SelfIndexedSequences x = Checks.built(4, "kitten|sitting");
    long kitten = Checks.word("kitten");
    CHECKS.due("matches(kitten, 0)", x.matches(kitten, 0), 1);
    CHECKS.due("match(kitten, 0, 0)", x.match(kitten, 0, 0), 60);
    // By kitt, kitte, kitten and sittin.
    CHECKS.due("matches(kitten, 2)", x.matches(kitten, 2), 4);
    CHECKS.due("match(kitten, 2, 0)", x.match(kitten, 2, 0), 42);
    CHECKS.due("match(kitten, 2, 1)", x.match(kitten, 2, 1), 51);
    CHECKS.due("match(kitten, 2, 2)", x.match(kitten, 2, 2), 60);
    CHECKS.due("match(kitten, 2, 3)", x.match(kitten, 2, 3), 10062);
    // By sitting, behind kit, the four above, sitt and sitti.
    CHECKS.due("match(kitten, 3, 7)", x.match(kitten, 3, 7), 10073);
  }
}
