/** Promises 1 to 5: a new object, put, scrap, build, load. */
public final class DraftTest {
  private static final Checks CHECKS = new Checks();
  private static final String NINETY_SIX = "abcdefgh".repeat(12);

  public static void main(String[] args) {
    promise1NewObject();
    promise1Step();
    promise2Symbols();
    promise2Limit();
    promise3();
    promise4();
    promise4Limits();
    promise5();
    promise5WrongDrafts();
    promise5ChangesNothing();
    promise5Limits();
    CHECKS.end();
  }

  private static void promise1NewObject() {
    SelfIndexedSequences x = new SelfIndexedSequences(3);
    long pattern = Checks.word("ab");
    CHECKS.due("new: size()", x.size(), 0);
    CHECKS.due("new: image(0)", x.image(0), 0);
    CHECKS.due("new: rank($, 0)", x.rank('$', 0), 0);
    CHECKS.due("new: rank(z, 0)", x.rank('z', 0), 0);
    CHECKS.due("new: rank(z, 1)", x.rank('z', 1), -1);
    CHECKS.due("new: rank(Z, 0)", x.rank('Z', 0), -1);
    CHECKS.due("new: suffix(0)", x.suffix(0), -1);
    CHECKS.due("new: walk(0)", x.walk(0), -1);
    CHECKS.due("new: sequences()", x.sequences(), 0);
    CHECKS.due("new: length(0)", x.length(0), -1);
    CHECKS.due("new: extract(0, 0)", x.extract(0, 0), 0);
    CHECKS.due("new: count(ab)", x.count(pattern), 0);
    CHECKS.due("new: count(0)", x.count(0), -1);
    CHECKS.due("new: place(ab, 0)", x.place(pattern, 0), -1);
    CHECKS.due("new: matches(ab, 4)", x.matches(pattern, 4), 0);
    CHECKS.due("new: matches(ab, 5)", x.matches(pattern, 5), -1);
    CHECKS.due("new: match(ab, 4, 0)", x.match(pattern, 4, 0), -1);
    CHECKS.due("new: load()", x.load(), false);
    CHECKS.due("new: build()", x.build(), 1);
    CHECKS.due("new, built: size()", x.size(), 1);
  }

  private static void promise1Step() {
    int[] steps = {2, 3, 4, 15, 16, 1, 0, -1, 17, 18, -4, Integer.MAX_VALUE, Integer.MIN_VALUE};
    for (int step : steps) {
      int kept = step >= 2 && step <= 16 ? step : 4;
      SelfIndexedSequences x = Checks.built(step, "z".repeat(40));
      for (int k = 0; k <= 40; k++) {
        // Of equal letters the shorter suffix comes first.
        CHECKS.due("step " + step + ": suffix(" + k + ")", x.suffix(k), 40 - k);
        CHECKS.due("step " + step + ": walk(" + k + ")", x.walk(k), (40 - k) % kept);
      }
    }
  }

  private static void promise2Symbols() {
    for (int code = 1; code <= 255; code++) {
      SelfIndexedSequences x = new SelfIndexedSequences(4);
      boolean symbol = code == '$' || code == '|' || code >= 'a' && code <= 'z';
      for (int b = 0; b < 8; b++) {
        CHECKS.due("put(code " + code + " in byte " + b + ")", x.put((long) code << (8 * b)), symbol);
      }
      x.scrap();
      CHECKS.due("put(a, code " + code + ", b)", x.put('a' | (long) code << 24 | (long) 'b' << 56), symbol);
      int due = code == '$' ? -1 : code == '|' ? 2 : 1;
      CHECKS.due("build() after code " + code, x.build(), due);
      if (due != -1) {
        CHECKS.due("size() after code " + code, x.size(), symbol ? 4 : 1);
      }
    }
    SelfIndexedSequences x = new SelfIndexedSequences(4);
    CHECKS.due("put(0)", x.put(0L), true);
    CHECKS.due("put(a0b0c)", x.put(Checks.word("\0a\0b\0\0\0c")), true);
    CHECKS.due("put(d)", x.put((long) 'd'), true);
    CHECKS.due("put(ab, 255)", x.put(Checks.word("ab\u00ff")), false);
    CHECKS.due("put(MIN_VALUE)", x.put(Long.MIN_VALUE), false);
    CHECKS.due("put(-1)", x.put(-1L), false);
    CHECKS.due("build()", x.build(), 1);
    CHECKS.due("extract(0, 0)", x.extract(0, 0), Checks.word("abcd"));
  }

  private static void promise2Limit() {
    SelfIndexedSequences x = new SelfIndexedSequences(4);
    CHECKS.due("96 put", Checks.putAll(x, NINETY_SIX), true);
    CHECKS.due("put of 2 at 96", x.put(Checks.word("xy")), false);
    CHECKS.due("put of 2 with 0 between at 96", x.put(Checks.word("x\0\0\0\0\0\0y")), false);
    CHECKS.due("put of 8 at 96", x.put(Checks.word("abcdefgh")), false);
    CHECKS.due("put of 1 in the highest byte at 96", x.put((long) '$' << 56), true);
    CHECKS.due("put of 1 at 97", x.put((long) 'a'), false);
    CHECKS.due("put(0) at 97", x.put(0L), true);
    CHECKS.due("build() with $", x.build(), -1);
    x.scrap();
    CHECKS.due("90 put", Checks.putAll(x, "a".repeat(90)), true);
    CHECKS.due("put of 8 at 90", x.put(Checks.word("bbbbbbbb")), false);
    CHECKS.due("put of 6 at 90", x.put(Checks.word("cccccc")), true);
    CHECKS.due("build()", x.build(), 1);
    CHECKS.due("length(0)", x.length(0), 96);
    CHECKS.due("count(b)", x.count('b'), 0);
    CHECKS.due("count(c)", x.count('c'), 6);
  }

  private static void promise3() {
    SelfIndexedSequences x = Checks.built(4, "abc");
    x.scrap();
    CHECKS.due("scrap keeps the index: size()", x.size(), 4);
    x.put(Checks.word("a$b"));
    x.scrap();
    x.put(Checks.word("xy"));
    CHECKS.due("build() after scrap", x.build(), 1);
    CHECKS.due("extract(0, 0) after scrap", x.extract(0, 0), Checks.word("xy"));
    Checks.putAll(x, NINETY_SIX);
    x.scrap();
    x.scrap();
    CHECKS.due("96 put after scrap", Checks.putAll(x, NINETY_SIX), true);
    x.scrap();
    CHECKS.due("load() after scrap", x.load(), false);
    CHECKS.due("build() of nothing", x.build(), 1);
    CHECKS.due("size() of nothing", x.size(), 1);
  }

  private static void promise4() {
    String[] texts = {"", "|", "||", "a", "|a", "a|", "a||b", "abc|de||f|", "zz|z", "a".repeat(96), "|".repeat(96)};
    SelfIndexedSequences x = new SelfIndexedSequences(4);
    for (String text : texts) {
      PlainModel model = new PlainModel(4, text);
      CHECKS.due("put " + text, Checks.putAll(x, text), true);
      CHECKS.due("build() of " + text, x.build(), model.sequences.size());
      CHECKS.due("text of " + text, Checks.contentOf(x).equals(text), true);
      CHECKS.due("image of " + text, Checks.imageOf(x).equals(model.image()), true);
    }
    CHECKS.due("the draft is empty: build()", x.build(), 1);
    CHECKS.due("the draft is empty: size()", x.size(), 1);
  }

  private static void promise4Limits() {
    SelfIndexedSequences x = Checks.built(4, "ab|c");
    Checks.putAll(x, "xy$");
    CHECKS.due("build() with $", x.build(), -1);
    CHECKS.due("the index stays", Checks.contentOf(x).equals("ab|c"), true);
    // The draft stays as well: it is the image of yx.
    CHECKS.due("load() of the draft that build() left", x.load(), true);
    CHECKS.due("its text", Checks.contentOf(x).equals("yx"), true);
    Checks.putAll(x, "b".repeat(97));
    CHECKS.due("build() of 97", x.build(), -1);
    CHECKS.due("the index stays again", Checks.contentOf(x).equals("yx"), true);
    CHECKS.due("the draft stays: put(a)", x.put('a'), false);
    x.scrap();
    Checks.putAll(x, "b".repeat(96));
    CHECKS.due("build() of 96", x.build(), 1);
    CHECKS.due("size() of 96", x.size(), 97);
  }

  private static void promise5() {
    String[] texts = {"", "a", "|", "a|", "|a", "banana", "mississippi|ississ||sip", "a".repeat(96), "|".repeat(96),
        NINETY_SIX, "ab|".repeat(32), "zyx|".repeat(24)};
    SelfIndexedSequences x = new SelfIndexedSequences(7);
    for (String text : texts) {
      Checks.putAll(x, new PlainModel(7, text).image());
      CHECKS.due("load() of the image of " + text, x.load(), true);
      CHECKS.due("size() of " + text, x.size(), text.length() + 1);
      CHECKS.due("text of the image of " + text, Checks.contentOf(x).equals(text), true);
      CHECKS.due("the draft is empty: load()", x.load(), false);
    }
    CHECKS.due("build() of the empty draft", x.build(), 1);
    CHECKS.due("size() of the empty draft", x.size(), 1);
  }

  private static void promise5WrongDrafts() {
    // Without just one $, or with one and several rounds of going back (in $a one that is $ alone).
    String[] drafts = {"", "a", "|", "$$", "$a", "$|", "ba$", "ab", "a$$", "a$b$", "b$a$", "$$$", "aba$", "$aab", "banana", "banana$"};
    for (String draft : drafts) {
      SelfIndexedSequences x = new SelfIndexedSequences(4);
      Checks.putAll(x, draft);
      CHECKS.due("load() of " + draft, x.load(), false);
      CHECKS.due("size() after " + draft, x.size(), 0);
    }
  }

  private static void promise5ChangesNothing() {
    SelfIndexedSequences x = Checks.built(3, "abra|cadabra");
    String image = Checks.imageOf(x);
    Checks.putAll(x, "ba");
    CHECKS.due("load() of ba", x.load(), false);
    x.put('$');
    CHECKS.due("load() of ba$", x.load(), false);
    CHECKS.due("image", Checks.imageOf(x).equals(image), true);
    CHECKS.due("text", Checks.contentOf(x).equals("abra|cadabra"), true);
    CHECKS.due("count(abra)", x.count(Checks.word("abra")), 2);
    CHECKS.due("place(abra, 1)", x.place(Checks.word("abra"), 1), 103);
    CHECKS.due("matches(abra, 1)", x.matches(Checks.word("abra"), 1),
        new PlainModel(3, "abra|cadabra").matches("abra", 1).size());
    CHECKS.due("suffix(5)", x.suffix(5), new PlainModel(3, "abra|cadabra").suffix(5));
    CHECKS.due("build() with the $ still there", x.build(), -1);
    x.scrap();
    Checks.putAll(x, "ba");
    CHECKS.due("load() of ba again", x.load(), false);
    CHECKS.due("build() of the draft that load() left", x.build(), 1);
    CHECKS.due("its text", Checks.contentOf(x).equals("ba"), true);
  }

  private static void promise5Limits() {
    SelfIndexedSequences x = new SelfIndexedSequences(4);
    Checks.putAll(x, "a".repeat(97));
    CHECKS.due("load() of 97 without $", x.load(), false);
    x.scrap();
    Checks.putAll(x, "$" + "a".repeat(96));
    CHECKS.due("load() of 97 with $ first", x.load(), false);
    x.scrap();
    Checks.putAll(x, "a".repeat(96) + "$");
    CHECKS.due("load() of 97 with $ last", x.load(), true);
    CHECKS.due("length(0)", x.length(0), 96);
  }
}
