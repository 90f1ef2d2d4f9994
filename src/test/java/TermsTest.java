import java.util.HashSet;
import java.util.Set;

/** The words of "What it is" and "Terms": each sentence that names an edge has a test here. */
public final class TermsTest {
  private static final Checks CHECKS = new Checks();
  private static final int[] FAR = {Integer.MIN_VALUE, -97, -2, -1, 0, 1, 2, 96, 97, 98, Integer.MAX_VALUE};
  private static final String A_TO_Z = "abcdefghijklmnopqrstuvwxyz";
  private static final String Z_TO_A = "zyxwvutsrqponmlkjihgfedcba";

  public static void main(String[] args) {
    last512thCall();
    manyChangesIn512Calls();
    symbols();
    orderOfSymbols();
    emptyText();
    longestText();
    sequencesBeforeBetweenBehind();
    emptySequences();
    textWithoutBar();
    placesAndOffsetsFromZero();
    suffixesFromZeroToN();
    orderGoesOnToTheEnd();
    noTwoSuffixesAlike();
    imageHasOneMore();
    imageAtTheSuffixOfPlaceZero();
    noTwoTextsWithOneImage();
    oneTextAtATime();
    noIndexAtAll();
    noIndexAfterRefusedCalls();
    patternsOfOneToEight();
    patternWithoutLetters();
    patternWithZeroBelow();
    patternsOfOtherCodes();
    CHECKS.end();
  }

  private static void last512thCall() {
    CHECKS.sentence("An object is used for at most 512 calls after it has been made");
    SelfIndexedSequences x = new SelfIndexedSequences(4);
    CHECKS.due("call 1: put(ab|ab)", x.put(Checks.word("ab|ab")), true);
    CHECKS.due("call 2: build()", x.build(), 2);
    for (int call = 3; call < 512; call++) {
      CHECKS.due("call " + call + ": match(ab, 1, 3)", x.match(Checks.word("ab"), 1, 3), 10020);
    }
    CHECKS.due("call 512: place(b, 1)", x.place('b', 1), 101);
  }

  private static void manyChangesIn512Calls() {
    CHECKS.sentence("An object is used for at most 512 calls, each of which may change it");
    SelfIndexedSequences x = new SelfIndexedSequences(4);
    for (int call = 1; call <= 509; call += 4) {
      CHECKS.due("call " + call + ": put(|a|b)", x.put(Checks.word("|a|b")), true);
      CHECKS.due("call " + (call + 1) + ": build()", x.build(), 3);
      CHECKS.due("call " + (call + 2) + ": put(b$a)", x.put(Checks.word("b$a")), true);
      CHECKS.due("call " + (call + 3) + ": load()", x.load(), true);
    }
  }

  private static void symbols() {
    CHECKS.sentence("SYMBOLS are $, | and the LETTERS a .. z (codes 36, 124, 97 .. 122)");
    for (int code = 0; code <= 255; code++) {
      SelfIndexedSequences x = new SelfIndexedSequences(4);
      boolean symbol = code == 36 || code == 124 || code >= 97 && code <= 122;
      CHECKS.due("put(" + code + ")", x.put(code), symbol || code == 0);
      CHECKS.due("rank(" + code + ", 0)", x.rank(code, 0), symbol ? 0 : -1);
      CHECKS.due("count(" + code + ")", x.count(code), code >= 97 && code <= 122 ? 0 : -1);
    }
  }

  private static void orderOfSymbols() {
    CHECKS.sentence("$, | and the letters, in this order");
    SelfIndexedSequences x = Checks.built(4, Z_TO_A + "|");
    for (int k = 0; k <= 27; k++) {
      CHECKS.due("suffix(" + k + ") of z .. a|", x.suffix(k), 27 - k);
    }
    SelfIndexedSequences y = Checks.built(4, "aa|a");
    // $, |a$, a$, a|a$, aa|a$: behind the first a the $ comes before the |, and this before a.
    int[] due = {4, 2, 3, 1, 0};
    for (int k = 0; k < due.length; k++) {
      CHECKS.due("suffix(" + k + ") of aa|a", y.suffix(k), due[k]);
    }
  }

  private static void emptyText() {
    CHECKS.sentence("A TEXT is a list of symbols without $, perhaps empty");
    emptyTextOf("build() of the empty text", Checks.built(4, ""));
    emptyTextOf("load() of the empty text", Checks.loaded(4, "$"));
  }

  private static void emptyTextOf(String how, SelfIndexedSequences x) {
    CHECKS.due(how + ": size()", x.size(), 1);
    CHECKS.due(how + ": image(0)", x.image(0), '$');
    CHECKS.due(how + ": rank($, 1)", x.rank('$', 1), 1);
    CHECKS.due(how + ": suffix(0)", x.suffix(0), 0);
    CHECKS.due(how + ": walk(0)", x.walk(0), 0);
    CHECKS.due(how + ": sequences()", x.sequences(), 1);
    CHECKS.due(how + ": length(0)", x.length(0), 0);
    CHECKS.due(how + ": extract(0, 0)", x.extract(0, 0), 0);
    CHECKS.due(how + ": count(a)", x.count('a'), 0);
    CHECKS.due(how + ": place(a, 0)", x.place('a', 0), -1);
    CHECKS.due(how + ": matches(a, 0)", x.matches('a', 0), 0);
    CHECKS.due(how + ": matches(a, 1)", x.matches('a', 1), 1);
    CHECKS.due(how + ": match(a, 1, 0)", x.match('a', 1, 0), 1);
  }

  private static void longestText() {
    CHECKS.sentence("A TEXT is a list of at most 96 symbols");
    SelfIndexedSequences x = Checks.drafted(4, "b".repeat(95) + "a");
    CHECKS.due("build() of 96", x.build(), 1);
    CHECKS.due("size() of 96", x.size(), 97);
    CHECKS.due("length(0) of 96", x.length(0), 96);
    CHECKS.due("extract(0, 95) of 96", x.extract(0, 95), 'a');
    CHECKS.due("suffix(0) of 96", x.suffix(0), 96);
    CHECKS.due("suffix(1) of 96", x.suffix(1), 95);
    CHECKS.due("suffix(96) of 96", x.suffix(96), 0);
    CHECKS.due("place(a, 0) of 96", x.place('a', 0), 95);
    CHECKS.due("match(a, 0, 0) of 96", x.match('a', 0, 0), 960);
    Checks.putAll(x, "b".repeat(97));
    CHECKS.due("build() of 97", x.build(), -1);
  }

  private static void sequencesBeforeBetweenBehind() {
    CHECKS.sentence("Its SEQUENCES 0, 1, .. are what stands before, between and behind the |");
    SelfIndexedSequences x = Checks.built(4, "abc|de|f");
    CHECKS.due("sequences()", x.sequences(), 3);
    CHECKS.due("extract(0, 0)", Checks.letters(x.extract(0, 0)), "abc");
    CHECKS.due("extract(1, 0)", Checks.letters(x.extract(1, 0)), "de");
    CHECKS.due("extract(2, 0)", Checks.letters(x.extract(2, 0)), "f");
    CHECKS.due("length(0)", x.length(0), 3);
    CHECKS.due("length(1)", x.length(1), 2);
    CHECKS.due("length(2)", x.length(2), 1);
  }

  private static void emptySequences() {
    CHECKS.sentence("some may be empty");
    lengths("|", 0, 0);
    lengths("||", 0, 0, 0);
    lengths("|a", 0, 1);
    lengths("a|", 1, 0);
    lengths("a||b", 1, 0, 1);
    lengths("||ab|||c||", 0, 0, 2, 0, 0, 1, 0, 0);
    lengths("|".repeat(96), new int[97]);
  }

  private static void textWithoutBar() {
    CHECKS.sentence("a text without | is one sequence");
    lengths("", 0);
    lengths("a", 1);
    lengths("z".repeat(96), 96);
  }

  private static void lengths(String text, int... due) {
    SelfIndexedSequences x = Checks.drafted(4, text);
    CHECKS.due("build() of " + text, x.build(), due.length);
    CHECKS.due("sequences() of " + text, x.sequences(), due.length);
    for (int s = 0; s < due.length; s++) {
      CHECKS.due("length(" + s + ") of " + text, x.length(s), due[s]);
    }
    CHECKS.due("length(" + due.length + ") of " + text, x.length(due.length), -1);
  }

  private static void placesAndOffsetsFromZero() {
    CHECKS.sentence("The places of a text and the offsets in a sequence are counted from 0");
    SelfIndexedSequences x = Checks.built(4, "ab|cab");
    CHECKS.due("suffix of ab|cab$", x.suffix(3), 0);
    CHECKS.due("place(ab, 0)", x.place(Checks.word("ab"), 0), 0);
    CHECKS.due("place(ab, 1)", x.place(Checks.word("ab"), 1), 101);
    CHECKS.due("place(c, 0)", x.place('c', 0), 100);
    CHECKS.due("extract(1, 0)", Checks.letters(x.extract(1, 0)), "cab");
    CHECKS.due("extract(1, 1)", Checks.letters(x.extract(1, 1)), "ab");
  }

  private static void suffixesFromZeroToN() {
    CHECKS.sentence("places 0 .. n; the suffix that begins at n is $ alone");
    for (String text : new String[] {"", "a", "|", "z|", "|||", "ab".repeat(48), "|".repeat(96)}) {
      SelfIndexedSequences x = Checks.built(4, text);
      CHECKS.due("suffix(0) of " + text, x.suffix(0), text.length());
      CHECKS.due("suffix(n + 1) of " + text, x.suffix(text.length() + 1), -1);
      CHECKS.due("suffix(n) of " + text + " is there", x.suffix(text.length()) >= 0, true);
    }
  }

  private static void orderGoesOnToTheEnd() {
    CHECKS.sentence("Their ORDER is that of their first symbols, then of their second ones, and so on");
    SelfIndexedSequences up = Checks.built(4, "a".repeat(95) + "b");
    SelfIndexedSequences down = Checks.built(4, "b".repeat(95) + "a");
    SelfIndexedSequences bar = Checks.built(4, "a".repeat(95) + "|");
    for (int k = 1; k <= 96; k++) {
      CHECKS.due("suffix(" + k + ") of a .. ab", up.suffix(k), k - 1);
      CHECKS.due("suffix(" + k + ") of b .. ba", down.suffix(k), 96 - k);
      CHECKS.due("suffix(" + k + ") of a .. a|", bar.suffix(k), 96 - k);
    }
  }

  private static void noTwoSuffixesAlike() {
    CHECKS.sentence("so there is always one that comes first; they are counted 0 .. n in this order");
    for (String text : new String[] {"a".repeat(96), "|".repeat(96), "a|".repeat(48), "abc".repeat(32)}) {
      SelfIndexedSequences x = Checks.built(7, text);
      Set<Integer> places = new HashSet<>();
      for (int k = 0; k <= 96; k++) {
        places.add(x.suffix(k));
      }
      places.remove(-1);
      CHECKS.due("places of " + text, places.size(), 97);
    }
  }

  private static void imageHasOneMore() {
    CHECKS.sentence("The IMAGE of a text has n + 1 symbols: that at k stands before the place where suffix k begins");
    for (int n = 0; n <= 96; n++) {
      SelfIndexedSequences x = Checks.built(4, "a".repeat(n));
      CHECKS.due("image of " + n + " a", Checks.imageOf(x), "a".repeat(n) + "$");
      CHECKS.due("size() of " + n + " a", x.size(), n + 1);
    }
    CHECKS.due("image of z .. a", Checks.imageOf(Checks.built(4, Z_TO_A)), A_TO_Z + "$");
  }

  private static void imageAtTheSuffixOfPlaceZero() {
    CHECKS.sentence("or $ for the suffix that begins at 0");
    CHECKS.due("image of nothing", Checks.imageOf(Checks.built(4, "")), "$");
    CHECKS.due("image of banana", Checks.imageOf(Checks.built(4, "banana")), "annb$aa");
    CHECKS.due("image of a|z", Checks.imageOf(Checks.built(4, "a|z")), "za$|");
    CHECKS.due("image of ab, $ in the middle", Checks.imageOf(Checks.built(4, "ab")), "b$a");
    CHECKS.due("image of |, $ last", Checks.imageOf(Checks.built(4, "|")), "|$");
  }

  private static void noTwoTextsWithOneImage() {
    CHECKS.sentence("(No two texts have the same image.)");
    Set<String> images = new HashSet<>();
    int texts = 0;
    for (int length = 0; length <= 6; length++) {
      int all = (int) Math.round(Math.pow(3, length));
      for (int number = 0; number < all; number++) {
        images.add(Checks.imageOf(Checks.built(4, textOf(number, length))));
        texts++;
      }
    }
    CHECKS.due("images", images.size(), texts);
  }

  private static String textOf(int number, int length) {
    StringBuilder text = new StringBuilder();
    for (int k = 0, left = number; k < length; k++, left /= 3) {
      text.append("|ab".charAt(left % 3));
    }
    return text.toString();
  }

  private static void oneTextAtATime() {
    CHECKS.sentence("The INDEX is that of one text at a time");
    String dabra = Checks.answersOf(Checks.built(4, "dab|ra"));
    SelfIndexedSequences x = Checks.built(4, "abra|".repeat(19));
    Checks.putAll(x, "dab|ra");
    CHECKS.due("build() of a shorter text", x.build(), 2);
    CHECKS.due("answers after build()", Checks.answersOf(x), dabra);
    SelfIndexedSequences y = Checks.built(4, "abra|".repeat(19));
    // The image of dab|ra.
    Checks.putAll(y, "abrda$|");
    CHECKS.due("load() of a shorter text", y.load(), true);
    CHECKS.due("answers after load()", Checks.answersOf(y), dabra);
  }

  private static void noIndexAtAll() {
    CHECKS.sentence("if there is none, they answer as for no places, sequences and occurrences");
    noIndex("new", new SelfIndexedSequences(2));
  }

  private static void noIndexAfterRefusedCalls() {
    CHECKS.sentence("or there is none, also after drafts and refused calls");
    SelfIndexedSequences x = new SelfIndexedSequences(2);
    x.put(Checks.word("ab|ab"));
    noIndex("with a draft", x);
    x.put('$');
    CHECKS.due("build() with $", x.build(), -1);
    noIndex("after a refused build()", x);
    SelfIndexedSequences y = Checks.drafted(2, "ab");
    CHECKS.due("load() without $", y.load(), false);
    noIndex("after a refused load()", y);
    y.scrap();
    noIndex("after scrap()", y);
  }

  private static void noIndex(String when, SelfIndexedSequences x) {
    long ab = Checks.word("ab");
    CHECKS.due(when + ": size()", x.size(), 0);
    CHECKS.due(when + ": sequences()", x.sequences(), 0);
    CHECKS.due(when + ": count(ab)", x.count(ab), 0);
    CHECKS.due(when + ": count(a)", x.count('a'), 0);
    CHECKS.due(when + ": count(0)", x.count(0L), -1);
    CHECKS.due(when + ": rank($, 0)", x.rank('$', 0), 0);
    CHECKS.due(when + ": rank(Z, 0)", x.rank('Z', 0), -1);
    for (int k : FAR) {
      CHECKS.due(when + ": image(" + k + ")", x.image(k), 0L);
      CHECKS.due(when + ": rank(z, " + k + ")", x.rank('z', k), k == 0 ? 0 : -1);
      CHECKS.due(when + ": suffix(" + k + ")", x.suffix(k), -1);
      CHECKS.due(when + ": walk(" + k + ")", x.walk(k), -1);
      CHECKS.due(when + ": length(" + k + ")", x.length(k), -1);
      CHECKS.due(when + ": extract(0, " + k + ")", x.extract(0, k), 0L);
      CHECKS.due(when + ": extract(" + k + ", 0)", x.extract(k, 0), 0L);
      CHECKS.due(when + ": place(ab, " + k + ")", x.place(ab, k), -1);
      CHECKS.due(when + ": matches(ab, " + k + ")", x.matches(ab, k), k >= 0 && k <= 4 ? 0 : -1);
      CHECKS.due(when + ": match(ab, 4, " + k + ")", x.match(ab, 4, k), -1);
    }
  }

  private static void patternsOfOneToEight() {
    CHECKS.sentence("A PATTERN is given as a long with one to eight letters in its lowest bytes, the first in the lowest one");
    SelfIndexedSequences x = Checks.built(4, "abcdefghi");
    for (int size = 1; size <= 8; size++) {
      long word = Checks.word("abcdefgh".substring(0, size));
      CHECKS.due("count of " + size + " letters", x.count(word), 1);
      CHECKS.due("place of " + size + " letters", x.place(word, 0), 0);
      CHECKS.due("match of " + size + " letters", x.match(word, 0, 0), 10 * size);
    }
    CHECKS.due("count(hgfedcba)", x.count(Checks.word("hgfedcba")), 0);
    CHECKS.due("count(zzzzzzzz)", x.count(Checks.word("zzzzzzzz")), 0);
    CHECKS.due("count(ba)", x.count(Checks.word("ba")), 0);
  }

  private static void patternWithoutLetters() {
    CHECKS.sentence("one to eight letters: not none");
    noPattern(0L);
  }

  private static void patternWithZeroBelow() {
    CHECKS.sentence("in its lowest bytes, and 0 in the bytes above");
    for (int b = 1; b < 8; b++) {
      noPattern((long) 'a' << (8 * b));
    }
    for (int gap = 0; gap < 7; gap++) {
      noPattern(Checks.word("aaaaaaaa") & ~(255L << (8 * gap)));
    }
    noPattern(Checks.word("a\0a"));
    noPattern(Checks.word("a\0\0\0\0\0\0a"));
  }

  private static void patternsOfOtherCodes() {
    CHECKS.sentence("A PATTERN has letters alone");
    for (int code = 1; code <= 255; code++) {
      if (code < 'a' || code > 'z') {
        noPattern(code);
        noPattern('a' | (long) code << 8);
        noPattern(Checks.word("aaaaaaa") | (long) code << 56);
        noPattern((long) code << 56);
      }
    }
    noPattern(-1L);
    noPattern(Long.MIN_VALUE);
    noPattern(Long.MAX_VALUE);
    noPattern(Checks.word("aaa|aaaa"));
    noPattern(Checks.word("a$"));
  }

  /** On a text that has what the word would stand for if it were taken. */
  private static void noPattern(long word) {
    SelfIndexedSequences x = Checks.built(4, "aaaaaaaa|aa|aaaaaaaaaaaa");
    CHECKS.due("count(" + word + ")", x.count(word), -1);
    CHECKS.due("place(" + word + ", 0)", x.place(word, 0), -1);
    CHECKS.due("matches(" + word + ", 4)", x.matches(word, 4), -1);
    CHECKS.due("match(" + word + ", 4, 0)", x.match(word, 4, 0), -1);
  }
}
