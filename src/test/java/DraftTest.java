/** Promises 1 to 5 (a new object, put, scrap, build, load): each sentence has a test here. */
public final class DraftTest {
  private static final Checks CHECKS = new Checks();
  private static final int[] NO_STEPS = {1, 0, -1, -2, -4, -16, 17, 18, 32, 258, Integer.MAX_VALUE, Integer.MIN_VALUE};

  public static void main(String[] args) {
    newDraftIsEmpty();
    newObjectHasNoIndex();
    everyStepthPlace();
    everyFourthPlace();
    onlyWalkDependsOnStep();
    putLowestFirst();
    putLeavesZerosOut();
    putOfNoSymbol();
    putOfNoSymbolChangesNothing();
    putUpToNinetySeven();
    putBeyondNinetySeven();
    putBeyondChangesNothing();
    zerosDoNotCount();
    scrapMakesEmpty();
    scrapOfEmptyFullAndWrongDrafts();
    scrapKeepsTheIndex();
    buildMakesTheIndex();
    buildAfterOthers();
    buildMakesTheDraftEmpty();
    buildAnswersSequences();
    buildWithEnd();
    buildOfMoreThanNinetySix();
    buildRefusedChangesNothing();
    loadOfAnImage();
    loadOfTheLongestImage();
    loadMakesTheDraftEmpty();
    loadWithoutJustOneEnd();
    loadOfSeveralRounds();
    loadRefusedChangesNothing();
    refusedFullDraftStaysFull();
    refusedFullDraftKeepsTheIndex();
    CHECKS.end();
  }

  private static void newDraftIsEmpty() {
    CHECKS.sentence("1: An empty draft");
    SelfIndexedSequences x = new SelfIndexedSequences(4);
    CHECKS.due("load() of a new draft", x.load(), false);
    CHECKS.due("build() of a new draft", x.build(), 1);
    CHECKS.due("size() of a new draft", x.size(), 1);
    CHECKS.due("97 put into a new draft", Checks.putAll(new SelfIndexedSequences(4), "a".repeat(97)), true);
  }

  private static void newObjectHasNoIndex() {
    CHECKS.sentence("1: no index");
    for (int step = -1; step <= 18; step++) {
      SelfIndexedSequences x = new SelfIndexedSequences(step);
      CHECKS.due("size() with step " + step, x.size(), 0);
      CHECKS.due("sequences() with step " + step, x.sequences(), 0);
      CHECKS.due("suffix(0) with step " + step, x.suffix(0), -1);
      CHECKS.due("walk(0) with step " + step, x.walk(0), -1);
    }
  }

  private static void everyStepthPlace() {
    CHECKS.sentence("1: Positions are kept for every step-th place of the text");
    for (int step = 2; step <= 16; step++) {
      walks(step, step);
    }
  }

  private static void everyFourthPlace() {
    CHECKS.sentence("1: or for every fourth if step is not 2 .. 16");
    for (int step : NO_STEPS) {
      walks(step, 4);
    }
  }

  private static void walks(int step, int kept) {
    SelfIndexedSequences x = Checks.built(step, "z".repeat(96));
    // Of equal letters the shorter suffix comes first: suffix k begins at 96 - k.
    for (int k = 0; k <= 96; k++) {
      CHECKS.due("step " + step + ": walk(" + k + ")", x.walk(k), (96 - k) % kept);
    }
  }

  private static void onlyWalkDependsOnStep() {
    CHECKS.sentence("1: (No answer depends on it but those of walk().)");
    for (String text : new String[] {"", "abra|cad||abra", "ab|".repeat(32), "a".repeat(96)}) {
      String image = Checks.imageOf(Checks.built(4, text));
      String due = Checks.answersOf(Checks.built(4, text));
      for (int step = -1; step <= 18; step++) {
        CHECKS.due("built with step " + step, Checks.answersOf(Checks.built(step, text)), due);
        CHECKS.due("loaded with step " + step, Checks.answersOf(Checks.loaded(step, image)), due);
      }
    }
  }

  private static void putLowestFirst() {
    CHECKS.sentence("2: Adds the symbols in the eight bytes of a long, the lowest first, to the draft");
    SelfIndexedSequences x = new SelfIndexedSequences(4);
    CHECKS.due("put(zbcdefgh)", x.put(Checks.word("zbcdefgh")), true);
    CHECKS.due("put(ij|k)", x.put(Checks.word("ij|k")), true);
    CHECKS.due("put(l)", x.put('l'), true);
    builds("three puts", x, "zbcdefghij|kl");
  }

  private static void putLeavesZerosOut() {
    CHECKS.sentence("2: bytes 0 are left out");
    SelfIndexedSequences x = new SelfIndexedSequences(4);
    CHECKS.due("put(0)", x.put(0L), true);
    CHECKS.due("put(0 a 0 b 0 0 0 c)", x.put(Checks.word("\0a\0b\0\0\0c")), true);
    CHECKS.due("put(0)", x.put(0L), true);
    CHECKS.due("put(d in the highest byte)", x.put((long) 'd' << 56), true);
    CHECKS.due("put(e in the lowest byte)", x.put('e'), true);
    builds("puts with 0", x, "abcde");
  }

  private static void putOfNoSymbol() {
    CHECKS.sentence("2: False when another byte is no symbol");
    for (int code = 1; code <= 255; code++) {
      boolean symbol = code == '$' || code == '|' || code >= 'a' && code <= 'z';
      SelfIndexedSequences x = new SelfIndexedSequences(4);
      for (int b = 0; b < 8; b++) {
        long others = Checks.word("abcdefgh") & ~(255L << (8 * b));
        CHECKS.due("put(code " + code + " alone in byte " + b + ")", x.put((long) code << (8 * b)), symbol);
        x.scrap();
        CHECKS.due("put(code " + code + " in byte " + b + ")", x.put(others | (long) code << (8 * b)), symbol);
        x.scrap();
      }
    }
    CHECKS.due("put(-1)", new SelfIndexedSequences(4).put(-1L), false);
    CHECKS.due("put(MIN_VALUE)", new SelfIndexedSequences(4).put(Long.MIN_VALUE), false);
  }

  private static void putOfNoSymbolChangesNothing() {
    CHECKS.sentence("2: changing nothing, when another byte is no symbol");
    for (int b = 0; b < 8; b++) {
      SelfIndexedSequences x = Checks.built(4, "abra|cad");
      String before = Checks.answersOf(x);
      x.put(Checks.word("xy"));
      long others = Checks.word("abcdefgh") & ~(255L << (8 * b));
      CHECKS.due("put(A in byte " + b + ")", x.put(others | (long) 'A' << (8 * b)), false);
      CHECKS.due("the index after A in byte " + b, Checks.answersOf(x), before);
      x.put('z');
      builds("the draft after A in byte " + b, x, "xyz");
    }
  }

  private static void putUpToNinetySeven() {
    CHECKS.sentence("2: the draft may have 97");
    for (int last = 1; last <= 8; last++) {
      SelfIndexedSequences x = Checks.drafted(4, "a".repeat(97 - last));
      CHECKS.due("put of the last " + last, x.put(Checks.word("a".repeat(last - 1) + "$")), true);
      CHECKS.due("load() of 97", x.load(), true);
      CHECKS.due("text of 97", Checks.contentOf(x), "a".repeat(96));
    }
  }

  private static void putBeyondNinetySeven() {
    CHECKS.sentence("2: False when the draft would have more than 97");
    for (int there = 90; there <= 97; there++) {
      for (int more = 98 - there; more <= 8; more++) {
        SelfIndexedSequences x = Checks.drafted(4, "a".repeat(there));
        CHECKS.due("put of " + more + " at " + there, x.put(Checks.word("b".repeat(more))), false);
      }
    }
    SelfIndexedSequences x = Checks.drafted(4, "a".repeat(96));
    CHECKS.due("put of 2 with 0 between at 96", x.put(Checks.word("x\0\0\0\0\0\0y")), false);
    CHECKS.due("put of no symbol at 96", x.put('A'), false);
    CHECKS.due("put of 1 at 96", x.put('|'), true);
    CHECKS.due("put of 1 at 97", x.put('|'), false);
    CHECKS.due("put of no symbol at 97", x.put('A'), false);
  }

  private static void putBeyondChangesNothing() {
    CHECKS.sentence("2: changing nothing, when the draft would have more than 97");
    SelfIndexedSequences x = Checks.built(4, "abra|cad");
    String before = Checks.answersOf(x);
    Checks.putAll(x, "a".repeat(90));
    CHECKS.due("put of 8 at 90", x.put(Checks.word("bbbbbbbb")), false);
    CHECKS.due("the index", Checks.answersOf(x), before);
    CHECKS.due("put of 6 at 90", x.put(Checks.word("cccccc")), true);
    builds("the draft", x, "a".repeat(90) + "cccccc");
    SelfIndexedSequences y = Checks.drafted(4, "a".repeat(96) + "$");
    CHECKS.due("put of 1 at 97", y.put('b'), false);
    CHECKS.due("load() of what was there", y.load(), true);
    CHECKS.due("its text", Checks.contentOf(y), "a".repeat(96));
  }

  private static void zerosDoNotCount() {
    CHECKS.sentence("2: bytes 0 are left out, also of what the draft would have");
    SelfIndexedSequences x = Checks.drafted(4, "a".repeat(96));
    CHECKS.due("put of 1 in the highest byte at 96", x.put((long) '$' << 56), true);
    CHECKS.due("put(0) at 97", x.put(0L), true);
    CHECKS.due("load()", x.load(), true);
    CHECKS.due("size()", x.size(), 97);
  }

  private static void scrapMakesEmpty() {
    CHECKS.sentence("3: Makes the draft empty");
    SelfIndexedSequences x = Checks.drafted(4, "abc");
    x.scrap();
    builds("after scrap()", x, "");
    Checks.putAll(x, "abc");
    x.scrap();
    Checks.putAll(x, "xy");
    builds("put after scrap()", x, "xy");
    Checks.putAll(x, "b$a");
    x.scrap();
    CHECKS.due("load() after scrap() of an image", x.load(), false);
  }

  private static void scrapOfEmptyFullAndWrongDrafts() {
    CHECKS.sentence("3: Makes the draft empty, whatever it was");
    for (String draft : new String[] {"", "$", "$$", "a$b", "a".repeat(96), "a".repeat(97), "$".repeat(97)}) {
      SelfIndexedSequences x = Checks.drafted(4, draft);
      x.scrap();
      x.scrap();
      CHECKS.due("97 put after scrap() of " + draft, Checks.putAll(x, "a".repeat(96) + "$"), true);
      CHECKS.due("load() after scrap() of " + draft, x.load(), true);
      CHECKS.due("text after scrap() of " + draft, Checks.contentOf(x), "a".repeat(96));
    }
  }

  private static void scrapKeepsTheIndex() {
    CHECKS.sentence("3: the draft, and not the index");
    SelfIndexedSequences x = Checks.built(4, "abra|cad");
    String before = Checks.answersOf(x);
    x.scrap();
    CHECKS.due("the index after scrap() of nothing", Checks.answersOf(x), before);
    Checks.putAll(x, "xyz");
    x.scrap();
    CHECKS.due("the index after scrap() of xyz", Checks.answersOf(x), before);
  }

  private static void buildMakesTheIndex() {
    CHECKS.sentence("4: Makes the index that of the draft as a text");
    SelfIndexedSequences x = new SelfIndexedSequences(4);
    for (String text : new String[] {"banana", "", "a", "|", "z|", "|z", "abcdefgh".repeat(12), "|".repeat(96), "b"}) {
      Checks.putAll(x, text);
      builds("build() of " + text, x, text);
    }
    Checks.putAll(x, "banana");
    x.build();
    CHECKS.due("image of banana", Checks.imageOf(x), "annb$aa");
  }

  private static void buildAfterOthers() {
    CHECKS.sentence("4: Makes the index that of the draft, whatever was built, loaded or refused before");
    SelfIndexedSequences x = new SelfIndexedSequences(4);
    for (String text : new String[] {"xyz", "zy|", "", "z", ""}) {
      Checks.putAll(x, text);
      x.build();
      CHECKS.due("answers after build() of " + text, Checks.answersOf(x), Checks.answersOf(Checks.built(4, text)));
    }
    for (String draft : new String[] {"z", "zz$z", "$$", "z".repeat(97), "z".repeat(96) + "$"}) {
      SelfIndexedSequences y = Checks.loaded(4, draft);
      y.scrap();
      CHECKS.due("build() of nothing after load() of " + draft, y.build(), 1);
      CHECKS.due("answers after load() of " + draft, Checks.answersOf(y), Checks.answersOf(Checks.built(4, "")));
    }
  }

  private static void buildMakesTheDraftEmpty() {
    CHECKS.sentence("4: and the draft empty");
    SelfIndexedSequences x = Checks.built(4, "ab");
    builds("build() again", x, "");
    Checks.putAll(x, "ab");
    x.build();
    Checks.putAll(x, "cd");
    builds("build() of cd after ab", x, "cd");
    Checks.putAll(x, "a".repeat(96));
    x.build();
    CHECKS.due("load() of nothing", x.load(), false);
    CHECKS.due("97 put after build()", Checks.putAll(x, "a".repeat(97)), true);
  }

  private static void buildAnswersSequences() {
    CHECKS.sentence("4: how many sequences it has");
    for (int bars = 0; bars <= 96; bars++) {
      CHECKS.due("build() of " + bars + " bars", Checks.drafted(4, "|".repeat(bars)).build(), bars + 1);
      String text = "|".repeat(bars) + "a".repeat(96 - bars);
      CHECKS.due("build() of " + text, Checks.drafted(4, text).build(), bars + 1);
    }
  }

  private static void buildWithEnd() {
    CHECKS.sentence("4: NONE when the draft has a $");
    for (String draft : new String[] {"$", "$$", "$a", "a$", "a$b", "|$", "ab$cd$", "a".repeat(95) + "$", "$" + "a".repeat(95)}) {
      CHECKS.due("build() of " + draft, Checks.drafted(4, draft).build(), -1);
    }
    SelfIndexedSequences x = Checks.drafted(4, "ab$");
    x.scrap();
    Checks.putAll(x, "xy");
    CHECKS.due("build() of xy where ab$ was", x.build(), 1);
  }

  private static void buildOfMoreThanNinetySix() {
    CHECKS.sentence("4: NONE when the draft has more than 96 symbols");
    CHECKS.due("build() of 95", Checks.drafted(4, "b".repeat(95)).build(), 1);
    CHECKS.due("build() of 96", Checks.drafted(4, "b".repeat(96)).build(), 1);
    CHECKS.due("build() of 97", Checks.drafted(4, "b".repeat(97)).build(), -1);
    CHECKS.due("build() of 97 bars", Checks.drafted(4, "|".repeat(97)).build(), -1);
    CHECKS.due("build() of 97 with $", Checks.drafted(4, "b".repeat(96) + "$").build(), -1);
  }

  private static void buildRefusedChangesNothing() {
    CHECKS.sentence("4: NONE, changing nothing");
    SelfIndexedSequences x = Checks.built(4, "abra|cad");
    String before = Checks.answersOf(x);
    Checks.putAll(x, "b$");
    CHECKS.due("build() of b$", x.build(), -1);
    CHECKS.due("the index", Checks.answersOf(x), before);
    x.put('a');
    CHECKS.due("load() of the draft and a", x.load(), true);
    CHECKS.due("its text", Checks.contentOf(x), "ab");
    Checks.putAll(x, "a".repeat(96) + "$");
    CHECKS.due("build() of 97", x.build(), -1);
    CHECKS.due("the index stays", Checks.contentOf(x), "ab");
    CHECKS.due("the draft is full", x.put('a'), false);
    CHECKS.due("load() of the draft", x.load(), true);
    CHECKS.due("its text", Checks.contentOf(x), "a".repeat(96));
  }

  private static void loadOfAnImage() {
    CHECKS.sentence("5: If the draft is the image of a text, makes the index that of this text");
    String[][] images = {{"$", ""}, {"a$", "a"}, {"|$", "|"}, {"b$a", "ab"}, {"ab$", "ba"}, {"a$|", "|a"}, {"|a$", "a|"},
        {"annb$aa", "banana"}, {"abrda$|", "dab|ra"}, {"abcdefghijklmnopqrstuvwxyz$", "zyxwvutsrqponmlkjihgfedcba"}};
    SelfIndexedSequences x = new SelfIndexedSequences(4);
    for (String[] image : images) {
      Checks.putAll(x, image[0]);
      CHECKS.due("load() of " + image[0], x.load(), true);
      CHECKS.due("text of " + image[0], Checks.contentOf(x), image[1]);
      CHECKS.due("image of " + image[0], Checks.imageOf(x), image[0]);
    }
  }

  private static void loadOfTheLongestImage() {
    CHECKS.sentence("5: the image of a text of 96 symbols has 97");
    String[] texts = {"a".repeat(96), "|".repeat(96), "ab|".repeat(32), "zyx|".repeat(24), "abcdefgh".repeat(12),
        "b".repeat(95) + "a", "a".repeat(95) + "b"};
    for (String text : texts) {
      SelfIndexedSequences x = Checks.drafted(4, Checks.imageOf(Checks.built(4, text)));
      CHECKS.due("load() of the image of " + text, x.load(), true);
      CHECKS.due("text of the image of " + text, Checks.contentOf(x), text);
      CHECKS.due("size() of the image of " + text, x.size(), 97);
    }
  }

  private static void loadMakesTheDraftEmpty() {
    CHECKS.sentence("5: and the draft empty, and answers true");
    SelfIndexedSequences x = Checks.drafted(4, "b$a");
    CHECKS.due("load() of b$a", x.load(), true);
    CHECKS.due("load() again", x.load(), false);
    CHECKS.due("text after load() again", Checks.contentOf(x), "ab");
    builds("build() after load()", x, "");
    Checks.putAll(x, "a".repeat(96) + "$");
    CHECKS.due("load() of 97", x.load(), true);
    CHECKS.due("97 put after load()", Checks.putAll(x, "a".repeat(97)), true);
  }

  private static void loadWithoutJustOneEnd() {
    CHECKS.sentence("5: Else false: an image has one $");
    refused("");
    refused("a");
    refused("|");
    refused("ab");
    refused("banana");
    refused("a".repeat(97));
    refused("$$");
    refused("$$$");
    refused("a$$");
    refused("a$b$");
    refused("b$a$");
    refused("annb$a$");
    refused("$".repeat(97));
  }

  private static void loadOfSeveralRounds() {
    CHECKS.sentence("5: Else false: one $, but the order of no text");
    refused("$a");
    refused("$|");
    refused("$z|");
    refused("ba$");
    refused("aba$");
    refused("$aab");
    refused("banana$");
    refused("annba$a");
    refused("$" + "a".repeat(96));
    refused("a".repeat(95) + "$a");
    refused("a".repeat(48) + "$" + "a".repeat(48));
    refused("b" + "a".repeat(95) + "$");
  }

  private static void refused(String draft) {
    SelfIndexedSequences x = Checks.drafted(4, draft);
    CHECKS.due("load() of " + draft, x.load(), false);
    CHECKS.due("size() after load() of " + draft, x.size(), 0);
    CHECKS.due("load() of " + draft + " again", x.load(), false);
  }

  private static void loadRefusedChangesNothing() {
    CHECKS.sentence("5: Else false, changing nothing");
    SelfIndexedSequences x = Checks.built(4, "abra|cad");
    String before = Checks.answersOf(x);
    CHECKS.due("load() of nothing", x.load(), false);
    CHECKS.due("the index after load() of nothing", Checks.answersOf(x), before);
    x.put(Checks.word("b$"));
    CHECKS.due("load() of b$", x.load(), true);
    CHECKS.due("text of b$", Checks.contentOf(x), "b");
    before = Checks.answersOf(x);
    x.put(Checks.word("$a"));
    CHECKS.due("load() of $a", x.load(), false);
    CHECKS.due("the index after $a", Checks.answersOf(x), before);
    CHECKS.due("build() of the draft that stays", x.build(), -1);
    x.scrap();
    x.put(Checks.word("ba"));
    CHECKS.due("load() of ba", x.load(), false);
    CHECKS.due("the index after ba", Checks.answersOf(x), before);
    x.put('c');
    builds("the draft after load() of ba", x, "bac");
    x.put('a');
    CHECKS.due("load() of a", x.load(), false);
    x.put('$');
    CHECKS.due("load() of a and $", x.load(), true);
    CHECKS.due("its text", Checks.contentOf(x), "a");
  }

  /** Of such a draft no call tells more than that it is full. */
  private static void refusedFullDraftStaysFull() {
    CHECKS.sentence("4, 5: changing nothing, with a draft of 97 symbols without $");
    SelfIndexedSequences x = Checks.drafted(4, "b".repeat(97));
    CHECKS.due("build() of 97", x.build(), -1);
    CHECKS.due("put(a) after build()", x.put('a'), false);
    CHECKS.due("load() of 97", x.load(), false);
    CHECKS.due("put(a) after load()", x.put('a'), false);
    CHECKS.due("put(0) after load()", x.put(0L), true);
    CHECKS.due("build() again", x.build(), -1);
    CHECKS.due("size()", x.size(), 0);
    x.scrap();
    CHECKS.due("put(a) after scrap()", x.put('a'), true);
    builds("after scrap()", x, "a");
  }

  private static void refusedFullDraftKeepsTheIndex() {
    CHECKS.sentence("4, 5: changing nothing, with a draft of 97 symbols without $: nor the index");
    for (String draft : new String[] {"b".repeat(97), "|".repeat(97), "ab|".repeat(32) + "a"}) {
      SelfIndexedSequences x = Checks.built(4, "abra|cad");
      String before = Checks.answersOf(x);
      CHECKS.due("put of " + draft, Checks.putAll(x, draft), true);
      CHECKS.due("build() of " + draft, x.build(), -1);
      CHECKS.due("the index after build() of " + draft, Checks.answersOf(x), before);
      CHECKS.due("load() of " + draft, x.load(), false);
      CHECKS.due("the index after load() of " + draft, Checks.answersOf(x), before);
      x.scrap();
      CHECKS.due("the index after scrap() of " + draft, Checks.answersOf(x), before);
      builds("the draft after scrap() of " + draft, x, "");
    }
  }

  /** Builds, and looks whether the draft was this text. */
  private static void builds(String what, SelfIndexedSequences x, String text) {
    int sequences = 1 + text.length() - text.replace("|", "").length();
    CHECKS.due(what + ": build()", x.build(), sequences);
    CHECKS.due(what + ": text", Checks.contentOf(x), text);
  }
}
