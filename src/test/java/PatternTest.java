import java.util.List;

/** Promises 14 to 17 (count, place, matches, match) with their terms: each sentence has a test here. */
public final class PatternTest {
  private static final Checks CHECKS = new Checks();
  private static final int[] NO_NUMBERS = {-1, -2, -97, Integer.MIN_VALUE, Integer.MIN_VALUE + 1, Integer.MAX_VALUE, 98, 1000};
  private static final int[] NO_ERRORS = {-1, -2, -4, 5, 6, 8, 9, 256, 260, Integer.MIN_VALUE, Integer.MAX_VALUE};
  private static final long[] NO_PATTERNS = {0L, '$', '|', 'A', '`', '{', -1L, Long.MIN_VALUE, Long.MAX_VALUE, 'a' << 8,
      'a' | 'b' << 16, 'a' | '|' << 8, 'a' | '$' << 8, 'a' | 1L << 63, (long) 'a' << 56};
  private static final String[] PATTERNS = {"a", "z", "aa", "ab", "ba", "abc", "abab", "aaaaaaaa", "abcdefgh",
      "hgfedcba", "abcdxfgh", "bcdefgha", "zzzzzzzz", "xyz", "abcd"};
  private static final String[] TEXTS = {"", "a", "|", "|a|", "ab|ab", "a|b", "abababab", "aaaaaaaaa|aaaaaaaa|aaaaaaa",
      "abcdefgh|abcdegh|abcdeefgh|abcdxfgh|bacdefgh", "ab|".repeat(32), "a".repeat(96), "|".repeat(96),
      "|".repeat(95) + "a", "a|".repeat(48), "abcdefgh".repeat(12)};

  public static void main(String[] args) {
    countOccurrences();
    countWhatIsNotThere();
    occursInOneSequence();
    occursNotAroundTheEnd();
    countOfNoPattern();
    placeOfSequenceAndOffset();
    placesInOrder();
    placeOfNoPattern();
    placeThatIsNone();
    stepsOfDistance();
    leastNumberOfSteps();
    leastOfTheBeginnings();
    endsFromZeroToL();
    emptyListAtAnEnd();
    listsStayInTheirSequence();
    atMostKErrors();
    matchesOfNoPattern();
    errorsFromZeroToFour();
    matchInNumbers();
    matchTellsItsOwnDistance();
    matchesInOrder();
    matchOfNoPattern();
    matchThatIsNone();
    patternsAfterOneAnother();
    likeTheModel();
    CHECKS.end();
  }

  private static void countOccurrences() {
    CHECKS.sentence("14: How often a pattern occurs");
    count("banana", "a", 3);
    count("banana", "ana", 2);
    count("banana", "banana", 1);
    count("aaaa", "aa", 3);
    count("ab|ab||cab", "ab", 3);
    count("z".repeat(96), "z", 96);
    count("z".repeat(96), "zzzzzzzz", 89);
    count("z|".repeat(48), "z", 48);
    count("abcdefgh", "abcdefgh", 1);
    count("b".repeat(88) + "abcdefgh", "abcdefgh", 1);
  }

  private static void countWhatIsNotThere() {
    CHECKS.sentence("14: How often a pattern occurs, also if it does not");
    count("", "a", 0);
    count("|", "a", 0);
    count("banana", "c", 0);
    count("banana", "z", 0);
    count("banana", "nab", 0);
    count("abcdefg", "abcdefgh", 0);
    count("aaaaaaa|aaaaaaa", "aaaaaaaa", 0);
    CHECKS.due("count(a) without index", new SelfIndexedSequences(4).count('a'), 0);
  }

  private static void occursInOneSequence() {
    CHECKS.sentence("It OCCURS at an offset of a sequence if its letters stand there one after the other");
    count("ab|cd", "bc", 0);
    count("ab||cd", "bc", 0);
    count("a|a|a", "aa", 0);
    count("ab|cd", "ab", 1);
    count("ab|cd", "cd", 1);
    count("acb", "ab", 0);
  }

  private static void occursNotAroundTheEnd() {
    CHECKS.sentence("It OCCURS: not from the end of the text on to its beginning");
    count("ba", "ab", 0);
    count("bca", "ab", 0);
    count("a", "aa", 0);
    count("b|a", "ab", 0);
    count("aaaaaaa", "aaaaaaaa", 0);
  }

  private static void count(String text, String pattern, int due) {
    SelfIndexedSequences x = Checks.built(4, text);
    CHECKS.due("count(" + pattern + ") of " + text, x.count(Checks.word(pattern)), due);
    SelfIndexedSequences y = Checks.loaded(4, Checks.imageOf(x));
    CHECKS.due("count(" + pattern + ") of " + text + " loaded", y.count(Checks.word(pattern)), due);
    CHECKS.due("place(" + pattern + ", last) of " + text, x.place(Checks.word(pattern), due - 1) >= 0, due > 0);
    CHECKS.due("place(" + pattern + ", count) of " + text, x.place(Checks.word(pattern), due), -1);
  }

  private static void countOfNoPattern() {
    CHECKS.sentence("14: NONE when it is none");
    for (long word : NO_PATTERNS) {
      CHECKS.due("count(" + word + ")", Checks.built(4, "a|ab").count(word), -1);
      CHECKS.due("count(" + word + ") without index", new SelfIndexedSequences(4).count(word), -1);
    }
  }

  private static void placeOfSequenceAndOffset() {
    CHECKS.sentence("15: 100 * the sequence and the offset");
    CHECKS.due("place(a, 0) at the beginning", Checks.built(4, "ab").place('a', 0), 0);
    CHECKS.due("place(a, 0) behind 95 letters", Checks.built(4, "b".repeat(95) + "a").place('a', 0), 95);
    CHECKS.due("place(a, 0) behind 95 bars", Checks.built(4, "|".repeat(95) + "a").place('a', 0), 9500);
    CHECKS.due("place(a, 0) behind | and 94 letters", Checks.built(4, "|" + "b".repeat(94) + "a").place('a', 0), 194);
    CHECKS.due("place(a, 0) before 95 bars", Checks.built(4, "a" + "|".repeat(95)).place('a', 0), 0);
    CHECKS.due("place(an, 1)", Checks.built(4, "ba|nana|an").place(Checks.word("an"), 1), 200);
  }

  private static void placesInOrder() {
    CHECKS.sentence("The occurrences are counted 0, 1, .. in the order of sequences, and of offsets in a sequence");
    // The suffixes that begin with a come in another order: a$, aa$, aab|aa$, ab|aa$.
    places("aab|aa", "a", 0, 1, 100, 101);
    places("az|ay|ax", "a", 0, 100, 200);
    places("zbzazc", "z", 0, 2, 4);
    places("aaaa", "aa", 0, 1, 2);
    places("ba|b|ab|bb", "b", 0, 100, 201, 300, 301);
    places("||ab|", "ab", 200);
    places("banana", "nab");
  }

  private static void places(String text, String pattern, int... due) {
    for (int step : new int[] {2, 3, 4, 16}) {
      SelfIndexedSequences x = Checks.built(step, text);
      for (int i = 0; i < due.length; i++) {
        CHECKS.due("place(" + pattern + ", " + i + ") of " + text, x.place(Checks.word(pattern), i), due[i]);
      }
      CHECKS.due("place(" + pattern + ", " + due.length + ") of " + text, x.place(Checks.word(pattern), due.length), -1);
    }
  }

  private static void placeOfNoPattern() {
    CHECKS.sentence("15: NONE when it is no pattern");
    for (long word : NO_PATTERNS) {
      CHECKS.due("place(" + word + ", 0)", Checks.built(4, "a|ab").place(word, 0), -1);
      CHECKS.due("place(" + word + ", -1)", Checks.built(4, "a|ab").place(word, -1), -1);
    }
  }

  private static void placeThatIsNone() {
    CHECKS.sentence("15: NONE when it has no occurrence i");
    for (int i : NO_NUMBERS) {
      CHECKS.due("place(a, " + i + ") of 96", Checks.built(4, "a".repeat(96)).place('a', i), -1);
      CHECKS.due("place(b, " + i + ") of 96", Checks.built(4, "a".repeat(96)).place('b', i), -1);
      CHECKS.due("place(a, " + i + ") of nothing", Checks.built(4, "").place('a', i), -1);
    }
    CHECKS.due("place(a, 95) of 96", Checks.built(4, "a".repeat(96)).place('a', 95), 95);
    CHECKS.due("place(a, 96) of 96", Checks.built(4, "a".repeat(96)).place('a', 96), -1);
    CHECKS.due("place(b, 0) of 96", Checks.built(4, "a".repeat(96)).place('b', 0), -1);
    CHECKS.due("place(a, 0) without index", new SelfIndexedSequences(4).place('a', 0), -1);
  }

  private static void stepsOfDistance() {
    CHECKS.sentence("a step takes a letter out, puts one in at any place, or makes a letter another one");
    matches("abcdefgh", "abcdefgh", 0, 80);
    // Out: the first, one between, the last; each end is told with its one error.
    matches("bcdefgh", "abcdefgh", 1, 71);
    matches("abcefgh", "abcdefgh", 1, 71);
    matches("abcdefg", "abcdefgh", 1, 71);
    // In: between, and what stands before or behind costs nothing at its own end.
    matches("abcdxefgh", "abcdefgh", 1, 91);
    matches("xabcdefgh", "abcdefgh", 0, 90);
    matches("abcdefghx", "abcdefgh", 1, 71, 80, 91);
    // Another one: the first, one between, the last.
    matches("xbcdefgh", "abcdefgh", 1, 81);
    matches("abcxefgh", "abcdefgh", 1, 81);
    matches("abcdefgx", "abcdefgh", 1, 71, 81);
  }

  private static void leastNumberOfSteps() {
    CHECKS.sentence("The DISTANCE of two lists of letters is the least number of steps");
    // Two letters changed for each other are two steps.
    matches("abdcefgh", "abcdefgh", 1);
    matches("abdcefgh", "abcdefgh", 2, 82);
    // kit, kitt, kitte, kitten; sitt, sitti, sittin, sitting.
    matches("kitten|sitting", "kitten", 2, 42, 51, 60, 10062);
    matches("kitten|sitting", "kitten", 3, 33, 42, 51, 60, 10043, 10053, 10062, 10073);
    // Three steps at every end but the first, each time other ones.
    matches("axbxcxd", "abcd", 2);
    matches("axbxcxd", "abcd", 3, 13, 23, 33, 43, 53, 63, 73);
  }

  private static void leastOfTheBeginnings() {
    CHECKS.sentence("the least of the distances from some offset b = 0 .. e on and before offset e");
    matches("xxxxxxxxab", "ab", 0, 100);
    matches("xxxxxxxxab", "ab", 1, 91, 100);
    matches("b".repeat(94) + "ac", "ac", 0, 960);
    matches("abab", "ab", 0, 20, 40);
    matches("abab", "ab", 1, 11, 20, 31, 40);
  }

  private static void endsFromZeroToL() {
    CHECKS.sentence("An END in a sequence of l letters is a number e = 0 .. l");
    matches("", "a", 1, 1);
    matches("b", "a", 1, 1, 11);
    matches("bb", "a", 1, 1, 11, 21);
    matches("|", "a", 1, 1, 10001);
    matches("a|", "a", 1, 1, 10, 10001);
    matches("|a", "a", 1, 1, 10001, 10010);
    CHECKS.due("matches(a, 1) of 96 letters", Checks.built(4, "b".repeat(96)).matches('a', 1), 97);
    CHECKS.due("matches(a, 1) of 96 bars", Checks.built(4, "|".repeat(96)).matches('a', 1), 97);
  }

  private static void emptyListAtAnEnd() {
    CHECKS.sentence("(with b = e this list is empty)");
    matches("xxxx||x", "abcd", 4, 4, 14, 24, 34, 44, 10004, 20004, 20014);
    matches("xxxx||x", "abcd", 3);
    matches("xxxx||x", "abcde", 4);
    matches("", "abcd", 4, 4);
    matches("", "abcd", 3);
    matches("", "abcde", 4);
    matches("zzzzzzzz", "abcdefgh", 4);
  }

  private static void listsStayInTheirSequence() {
    CHECKS.sentence("the lists of letters that stand in the sequence");
    matches("ab|cd", "abcd", 1);
    matches("ab|cd", "abcd", 2, 22, 10022);
    matches("a|a", "aa", 0);
    matches("a|a", "aa", 1, 11, 10011);
    matches("cd|ab", "abcd", 2, 22, 10022);
  }

  private static void atMostKErrors() {
    CHECKS.sentence("A MATCH with k errors is an end whose distance from the pattern is at most k");
    int[] due = {1, 3, 5, 7, 9};
    SelfIndexedSequences x = Checks.built(4, "abcdefghxxxxx");
    for (int k = 0; k <= 4; k++) {
      CHECKS.due("matches(abcdefgh, " + k + ")", x.matches(Checks.word("abcdefgh"), k), due[k]);
    }
    matches("abcdefghxxxxx", "abcdefgh", 4, 44, 53, 62, 71, 80, 91, 102, 113, 124);
  }

  /** All matches by their numbers, and how many there are. */
  private static void matches(String text, String pattern, int k, int... due) {
    long word = Checks.word(pattern);
    String of = pattern + " with " + k + " errors in " + text;
    for (int step : new int[] {2, 4, 16}) {
      SelfIndexedSequences x = Checks.built(step, text);
      CHECKS.due("matches of " + of, x.matches(word, k), due.length);
      for (int i = 0; i < due.length; i++) {
        CHECKS.due("match " + i + " of " + of, x.match(word, k, i), due[i]);
      }
      CHECKS.due("match " + due.length + " of " + of, x.match(word, k, due.length), -1);
    }
  }

  private static void matchesOfNoPattern() {
    CHECKS.sentence("16: NONE when it is none");
    for (long word : NO_PATTERNS) {
      for (int k = -1; k <= 5; k++) {
        CHECKS.due("matches(" + word + ", " + k + ")", Checks.built(4, "a|ab").matches(word, k), -1);
        CHECKS.due("matches(" + word + ", " + k + ") without index", new SelfIndexedSequences(4).matches(word, k), -1);
      }
    }
  }

  private static void errorsFromZeroToFour() {
    CHECKS.sentence("16, 17: NONE when k is not 0 .. 4");
    for (int k : NO_ERRORS) {
      CHECKS.due("matches(a, " + k + ")", Checks.built(4, "a|ab").matches('a', k), -1);
      CHECKS.due("matches(a, " + k + ") without index", new SelfIndexedSequences(4).matches('a', k), -1);
      CHECKS.due("match(a, " + k + ", 0)", Checks.built(4, "a|ab").match('a', k, 0), -1);
    }
    for (int k = 0; k <= 4; k++) {
      CHECKS.due("matches(a, " + k + ")", Checks.built(4, "a|ab").matches('a', k), k == 0 ? 2 : 5);
      CHECKS.due("matches(a, " + k + ") without index", new SelfIndexedSequences(4).matches('a', k), 0);
      CHECKS.due("match(a, " + k + ", 1)", Checks.built(4, "a|ab").match('a', k, 1), k == 0 ? 10010 : 10);
    }
  }

  private static void matchInNumbers() {
    CHECKS.sentence("17: 10000 * the sequence, 10 * the end, and its distance from the pattern");
    CHECKS.due("match at end 96", Checks.built(4, "b".repeat(95) + "a").match('a', 0, 0), 960);
    CHECKS.due("match at end 96 with an error", Checks.built(4, "b".repeat(96)).match('a', 1, 96), 961);
    CHECKS.due("match in sequence 95", Checks.built(4, "|".repeat(95) + "a").match('a', 0, 0), 950010);
    CHECKS.due("match in sequence 96", Checks.built(4, "|".repeat(96)).match('a', 1, 96), 960001);
    CHECKS.due("match in sequence 96 of 4", Checks.built(4, "|".repeat(96)).match(Checks.word("abcd"), 4, 96), 960004);
    CHECKS.due("match at end 95 of sequence 1", Checks.built(4, "|" + "b".repeat(94) + "a").match('a', 0, 0), 10950);
    CHECKS.due("match at end 0", Checks.built(4, "b").match('a', 1, 0), 1);
  }

  private static void matchTellsItsOwnDistance() {
    CHECKS.sentence("17: its distance from the pattern, and not k");
    SelfIndexedSequences x = Checks.built(4, "ab");
    for (int k = 2; k <= 4; k++) {
      CHECKS.due("match(ab, " + k + ", 0)", x.match(Checks.word("ab"), k, 0), 2);
      CHECKS.due("match(ab, " + k + ", 1)", x.match(Checks.word("ab"), k, 1), 11);
      CHECKS.due("match(ab, " + k + ", 2)", x.match(Checks.word("ab"), k, 2), 20);
    }
  }

  private static void matchesInOrder() {
    CHECKS.sentence("Matches are counted 0, 1, .. in the order of sequences, and of ends in a sequence");
    matches("ba||ab", "ab", 1, 11, 21, 20011, 20020);
    matches("zc|zb|za", "z", 0, 10, 10010, 20010);
    matches("aab|aa", "a", 0, 10, 20, 10010, 10020);
  }

  private static void matchOfNoPattern() {
    CHECKS.sentence("17: NONE when it is no pattern");
    for (long word : NO_PATTERNS) {
      for (int k = 0; k <= 4; k++) {
        CHECKS.due("match(" + word + ", " + k + ", 0)", Checks.built(4, "a|ab").match(word, k, 0), -1);
      }
    }
  }

  private static void matchThatIsNone() {
    CHECKS.sentence("17: NONE when there is no match i");
    for (int i : NO_NUMBERS) {
      for (int k = 0; k <= 4; k++) {
        CHECKS.due("match(a, " + k + ", " + i + ") of 96", Checks.built(4, "a".repeat(96)).match('a', k, i), -1);
        CHECKS.due("match(a, " + k + ", " + i + ") of nothing", Checks.built(4, "").match('a', k, i), -1);
      }
    }
    CHECKS.due("match(a, 0, 95) of 96", Checks.built(4, "a".repeat(96)).match('a', 0, 95), 960);
    CHECKS.due("match(a, 0, 96) of 96", Checks.built(4, "a".repeat(96)).match('a', 0, 96), -1);
    CHECKS.due("match(a, 1, 96) of 96", Checks.built(4, "a".repeat(96)).match('a', 1, 96), 960);
    CHECKS.due("match(a, 1, 97) of 96", Checks.built(4, "a".repeat(96)).match('a', 1, 97), -1);
    CHECKS.due("match(a, 4, 0) without index", new SelfIndexedSequences(4).match('a', 4, 0), -1);
  }

  private static void patternsAfterOneAnother() {
    CHECKS.sentence("A PATTERN is that of its call: what was asked before does not matter");
    SelfIndexedSequences x = Checks.built(4, "abcabc|ab");
    CHECKS.due("count(abcabc)", x.count(Checks.word("abcabc")), 1);
    CHECKS.due("count(c)", x.count('c'), 2);
    CHECKS.due("match(abcabcab, 4, 0)", x.match(Checks.word("abcabcab"), 4, 0), 44);
    CHECKS.due("count(of none)", x.count(Checks.word("ab\0c")), -1);
    CHECKS.due("match(ab, 0, 2)", x.match(Checks.word("ab"), 0, 2), 10020);
    CHECKS.due("place(ab, 2)", x.place(Checks.word("ab"), 2), 100);
    CHECKS.due("place(abc, 1)", x.place(Checks.word("abc"), 1), 3);
    x.build();
    CHECKS.due("count(ab) of nothing", x.count(Checks.word("ab")), 0);
    CHECKS.due("matches(ab, 2) of nothing", x.matches(Checks.word("ab"), 2), 1);
  }

  private static void likeTheModel() {
    CHECKS.sentence("14 to 17, compared with the plain model");
    for (String text : TEXTS) {
      PlainModel model = new PlainModel(4, text);
      for (String pattern : PATTERNS) {
        for (int step : new int[] {2, 4, 16}) {
          occurrencesLikeTheModel(Checks.built(step, text), model, pattern);
        }
        for (int k = 0; k <= 4; k++) {
          matchesLikeTheModel(Checks.built(4, text), model, pattern, k);
        }
      }
    }
  }

  private static void occurrencesLikeTheModel(SelfIndexedSequences x, PlainModel model, String pattern) {
    List<Integer> due = model.occurrences(pattern);
    String of = pattern + " in " + model.text;
    long word = Checks.word(pattern);
    CHECKS.due("count " + of, x.count(word), due.size());
    for (int i = 0; i < due.size(); i++) {
      CHECKS.due("place " + i + " of " + of, x.place(word, i), due.get(i));
    }
    CHECKS.due("place " + due.size() + " of " + of, x.place(word, due.size()), -1);
  }

  private static void matchesLikeTheModel(SelfIndexedSequences x, PlainModel model, String pattern, int k) {
    List<Integer> due = model.matches(pattern, k);
    String of = pattern + " with " + k + " in " + model.text;
    long word = Checks.word(pattern);
    CHECKS.due("matches of " + of, x.matches(word, k), due.size());
    for (int i = 0; i < due.size(); i++) {
      CHECKS.due("match " + i + " of " + of, x.match(word, k, i), due.get(i));
    }
    CHECKS.due("match " + due.size() + " of " + of, x.match(word, k, due.size()), -1);
  }
}
