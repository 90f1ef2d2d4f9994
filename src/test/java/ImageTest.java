/** Promises 6 to 10 (size, image, rank, suffix, walk): each sentence has a test here. */
public final class ImageTest {
  private static final Checks CHECKS = new Checks();
  private static final int[] FAR = {-1, -2, -8, -97, Integer.MIN_VALUE, Integer.MIN_VALUE + 1, Integer.MAX_VALUE, 98, 1000};
  // 8 times one of these is, with Java's wrap-around, a place of the image again.
  private static final int[] WRAPPING = {1 << 29, (1 << 29) + 1, 1 << 30, 3 << 29, (3 << 29) + 1, -(1 << 29), 1 - (1 << 29),
      Integer.MIN_VALUE, Integer.MIN_VALUE + 1, -(1 << 30), 1 << 28, Integer.MAX_VALUE};
  private static final String A_TO_Z = "abcdefghijklmnopqrstuvwxyz";
  private static final String Z_TO_A = "zyxwvutsrqponmlkjihgfedcba";
  private static final String[] TEXTS = {"", "a", "|", "|a|", "banana", "z|y|x||z", "abababa", "abcdefgh|abcdefg",
      "ab|".repeat(32), "a".repeat(96), "|".repeat(96), Z_TO_A + "|" + A_TO_Z};

  public static void main(String[] args) {
    sizeOfImage();
    sizeWithoutIndex();
    eightSymbols();
    zeroBehindTheImage();
    zeroBeforeTheImage();
    imageWraps();
    rankCounts();
    rankAtItsEnds();
    rankOutside();
    rankOfNoSymbol();
    suffixPlaces();
    suffixThatIsNone();
    walkToTheNearest();
    walkToItself();
    walkOfNone();
    likeTheModel();
    CHECKS.end();
  }

  private static void sizeOfImage() {
    CHECKS.sentence("6: How many symbols the image has");
    for (int n = 0; n <= 96; n++) {
      CHECKS.due("size() of " + n + " letters", Checks.built(4, "c".repeat(n)).size(), n + 1);
      CHECKS.due("size() of " + n + " bars", Checks.loaded(4, "|".repeat(n) + "$").size(), n + 1);
    }
  }

  private static void sizeWithoutIndex() {
    CHECKS.sentence("6: 0 if there is no index");
    SelfIndexedSequences x = new SelfIndexedSequences(4);
    CHECKS.due("size() of a new object", x.size(), 0);
    x.put(Checks.word("ab$"));
    CHECKS.due("size() with a draft", x.size(), 0);
    x.build();
    CHECKS.due("size() after a refused build()", x.size(), 0);
    x.load();
    CHECKS.due("size() after load()", x.size(), 3);
  }

  private static void eightSymbols() {
    CHECKS.sentence("7: Eight symbols of the image from place 8 * k on, the first in the lowest byte");
    SelfIndexedSequences x = Checks.built(4, Z_TO_A);
    CHECKS.due("image(0)", x.image(0), 0x6867666564636261L);
    CHECKS.due("image(1)", Checks.letters(x.image(1)), "ijklmnop");
    CHECKS.due("image(2)", Checks.letters(x.image(2)), "qrstuvwx");
    SelfIndexedSequences y = Checks.built(4, "a".repeat(96));
    for (int k = 0; k <= 11; k++) {
      CHECKS.due("image(" + k + ") of 96", y.image(k), 0x6161616161616161L);
    }
  }

  private static void zeroBehindTheImage() {
    CHECKS.sentence("7: 0 in the bytes for which there is none");
    SelfIndexedSequences x = Checks.built(4, Z_TO_A);
    CHECKS.due("image(3)", x.image(3), 0x247A79L);
    CHECKS.due("image(4)", x.image(4), 0L);
    for (int n = 0; n <= 96; n++) {
      SelfIndexedSequences y = Checks.built(4, "a".repeat(n));
      int last = n / 8;
      CHECKS.due("image(" + last + ") of " + n, y.image(last), Checks.word("a".repeat(n % 8) + "$"));
      CHECKS.due("image(" + (last + 1) + ") of " + n, y.image(last + 1), 0L);
      CHECKS.due("image(13) of " + n, y.image(13), 0L);
    }
    // What was there before is no symbol of the image any more.
    x.build();
    CHECKS.due("image(0) of nothing", x.image(0), '$');
    CHECKS.due("image(1) of nothing", x.image(1), 0L);
  }

  private static void zeroBeforeTheImage() {
    CHECKS.sentence("7: (also for every k that is less than 0)");
    SelfIndexedSequences x = Checks.built(4, "ab|".repeat(32));
    for (int k = 1; k <= 16; k++) {
      CHECKS.due("image(-" + k + ")", x.image(-k), 0L);
    }
    CHECKS.due("image(MIN_VALUE)", x.image(Integer.MIN_VALUE), 0L);
  }

  private static void imageWraps() {
    CHECKS.sentence("7: from place 8 * k on, however far it is");
    SelfIndexedSequences x = Checks.built(4, "ab|".repeat(32));
    for (int k : WRAPPING) {
      CHECKS.due("image(" + k + ")", x.image(k), 0L);
      CHECKS.due("image(" + k + ") without index", new SelfIndexedSequences(4).image(k), 0L);
    }
  }

  private static void rankCounts() {
    CHECKS.sentence("8: How often a symbol (by its code) is among the first i symbols of the image");
    // The image of banana: annb$aa.
    SelfIndexedSequences x = Checks.built(4, "banana");
    int[] a = {0, 1, 1, 1, 1, 1, 2, 3};
    int[] n = {0, 0, 1, 2, 2, 2, 2, 2};
    int[] end = {0, 0, 0, 0, 0, 1, 1, 1};
    for (int i = 0; i <= 7; i++) {
      CHECKS.due("rank(a, " + i + ")", x.rank(97, i), a[i]);
      CHECKS.due("rank(n, " + i + ")", x.rank('n', i), n[i]);
      CHECKS.due("rank($, " + i + ")", x.rank(36, i), end[i]);
      CHECKS.due("rank(|, " + i + ")", x.rank(124, i), 0);
    }
  }

  private static void rankAtItsEnds() {
    CHECKS.sentence("8: i may be 0 .. size()");
    SelfIndexedSequences x = Checks.built(4, "|".repeat(50) + "z".repeat(46));
    CHECKS.due("rank(|, 0)", x.rank('|', 0), 0);
    CHECKS.due("rank(z, 0)", x.rank('z', 0), 0);
    CHECKS.due("rank($, 97)", x.rank('$', 97), 1);
    CHECKS.due("rank(|, 97)", x.rank('|', 97), 50);
    CHECKS.due("rank(z, 97)", x.rank('z', 97), 46);
    CHECKS.due("rank(a, 97)", x.rank('a', 97), 0);
    CHECKS.due("rank(z, 0) without index", new SelfIndexedSequences(4).rank('z', 0), 0);
  }

  private static void rankOutside() {
    CHECKS.sentence("8: NONE when i is not 0 .. size()");
    for (String text : new String[] {"", "a", "banana", "a".repeat(96)}) {
      SelfIndexedSequences x = Checks.built(4, text);
      for (char symbol : new char[] {'$', '|', 'a', 'z'}) {
        CHECKS.due("rank(" + symbol + ", size() + 1) of " + text, x.rank(symbol, text.length() + 2), -1);
        CHECKS.due("rank(" + symbol + ", size()) of " + text + " is there", x.rank(symbol, text.length() + 1) >= 0, true);
        for (int i : FAR) {
          CHECKS.due("rank(" + symbol + ", " + i + ") of " + text, x.rank(symbol, i), -1);
        }
      }
    }
    CHECKS.due("rank(z, 1) without index", new SelfIndexedSequences(4).rank('z', 1), -1);
  }

  private static void rankOfNoSymbol() {
    CHECKS.sentence("8: NONE when the code is no symbol's");
    for (int code = -300; code <= 700; code++) {
      boolean symbol = code == 36 || code == 124 || code >= 97 && code <= 122;
      SelfIndexedSequences x = Checks.built(4, "az|b");
      CHECKS.due("rank(" + code + ", 0)", x.rank(code, 0), symbol ? 0 : -1);
      boolean there = code == '$' || code == '|' || code == 'a' || code == 'b' || code == 'z';
      CHECKS.due("rank(" + code + ", 5)", x.rank(code, 5), there ? 1 : symbol ? 0 : -1);
    }
    for (int code : new int[] {0, 1, 2, Integer.MIN_VALUE, Integer.MAX_VALUE, 'a' - 65536, 'a' + 65536, 'a' | 1 << 31, ~'a'}) {
      CHECKS.due("rank(" + code + ", 1)", Checks.built(4, "az|b").rank(code, 1), -1);
      CHECKS.due("rank(" + code + ", 0) without index", new SelfIndexedSequences(4).rank(code, 0), -1);
      CHECKS.due("rank(" + code + ", 6)", Checks.built(4, "az|b").rank(code, 6), -1);
    }
  }

  private static void suffixPlaces() {
    CHECKS.sentence("9: The place of the text where suffix k begins");
    SelfIndexedSequences x = Checks.built(4, "banana");
    int[] due = {6, 5, 3, 1, 0, 4, 2};
    for (int k = 0; k < due.length; k++) {
      CHECKS.due("suffix(" + k + ") of banana", x.suffix(k), due[k]);
      CHECKS.due("suffix(" + k + ") of annb$aa", Checks.loaded(9, "annb$aa").suffix(k), due[k]);
    }
  }

  private static void suffixThatIsNone() {
    CHECKS.sentence("9: NONE when there is none");
    for (String text : new String[] {"", "a", "banana", "a".repeat(96)}) {
      SelfIndexedSequences x = Checks.built(4, text);
      CHECKS.due("suffix(n) of " + text, x.suffix(text.length()) >= 0, true);
      CHECKS.due("suffix(n + 1) of " + text, x.suffix(text.length() + 1), -1);
      for (int k : FAR) {
        CHECKS.due("suffix(" + k + ") of " + text, x.suffix(k), -1);
      }
    }
    // A shorter text has taken the place of a longer one.
    SelfIndexedSequences x = Checks.built(4, "banana");
    x.build();
    CHECKS.due("suffix(0) of nothing", x.suffix(0), 0);
    CHECKS.due("suffix(1) of nothing", x.suffix(1), -1);
    CHECKS.due("suffix(0) without index", new SelfIndexedSequences(4).suffix(0), -1);
  }

  private static void walkToTheNearest() {
    CHECKS.sentence("10: How far the place where suffix k begins is behind the nearest place before it that is a multiple of step");
    SelfIndexedSequences x = Checks.built(4, "banana");
    int[] due = {2, 1, 3, 1, 0, 0, 2};
    for (int k = 0; k < due.length; k++) {
      CHECKS.due("walk(" + k + ") of banana", x.walk(k), due[k]);
    }
    SelfIndexedSequences y = Checks.built(16, "a".repeat(96));
    CHECKS.due("walk to 80 from 95", y.walk(1), 15);
    CHECKS.due("walk to 0 from 15", y.walk(81), 15);
    CHECKS.due("walk to 0 from 1", y.walk(95), 1);
  }

  private static void walkToItself() {
    CHECKS.sentence("10: (or itself)");
    for (int step = 2; step <= 16; step++) {
      SelfIndexedSequences x = Checks.built(step, "a".repeat(96));
      for (int place = 0; place <= 96; place += step) {
        CHECKS.due("walk from " + place + " with step " + step, x.walk(96 - place), 0);
      }
      CHECKS.due("walk of the empty text with step " + step, Checks.built(step, "").walk(0), 0);
    }
  }

  private static void walkOfNone() {
    CHECKS.sentence("10: NONE when there is no suffix k");
    for (String text : new String[] {"", "a", "banana", "a".repeat(96)}) {
      SelfIndexedSequences x = Checks.built(4, text);
      CHECKS.due("walk(n) of " + text, x.walk(text.length()) >= 0, true);
      CHECKS.due("walk(n + 1) of " + text, x.walk(text.length() + 1), -1);
      for (int k : FAR) {
        CHECKS.due("walk(" + k + ") of " + text, x.walk(k), -1);
      }
    }
    CHECKS.due("walk(0) without index", new SelfIndexedSequences(4).walk(0), -1);
  }

  private static void likeTheModel() {
    CHECKS.sentence("6 to 10, compared with the plain model");
    for (String text : TEXTS) {
      for (int step : new int[] {2, 5, 16}) {
        PlainModel model = new PlainModel(step, text);
        SelfIndexedSequences x = Checks.built(step, text);
        CHECKS.due("image of " + text, Checks.imageOf(x), model.image());
        for (int k = -2; k <= text.length() + 2; k++) {
          CHECKS.due("suffix(" + k + ") of " + text, x.suffix(k), model.suffix(k));
          CHECKS.due("walk(" + k + ") of " + text, x.walk(k), model.walk(k));
        }
        for (char symbol : new char[] {'$', '|', 'a', 'b', 'y', 'z'}) {
          ranksLikeTheModel(Checks.built(step, text), model, symbol);
        }
      }
    }
  }

  private static void ranksLikeTheModel(SelfIndexedSequences x, PlainModel model, char symbol) {
    for (int i = -2; i <= model.text.length() + 3; i++) {
      CHECKS.due("rank(" + symbol + ", " + i + ") of " + model.text, x.rank(symbol, i), model.rank(symbol, i));
    }
  }
}
