import java.util.List;

/** Long runs of all calls on one object, with drafts and states that nobody thought of. */
public final class ManyCallsTest {
  private static final Checks CHECKS = new Checks();
  // The document promises 512; a round has at most 240.
  private static final int CALLS_BEFORE_THE_LAST_ROUND = 512 - 240;
  private static final String[] ALPHABETS = {"a", "ab", "ab|", "abc|", "a|", "|", "abcdefghijklmnopqrstuvwxyz|", "ab|$", "xyz"};

  private final SelfIndexedSequences x;
  private final int step;
  private String draft = "";
  private PlainModel model;
  private int calls;

  private ManyCallsTest(int step) {
    this.step = step;
    this.x = new SelfIndexedSequences(step);
  }

  public static void main(String[] args) {
    for (int run = 0; run < 2000; run++) {
      ManyCallsTest test = new ManyCallsTest(run % 20 - 1);
      while (test.calls <= CALLS_BEFORE_THE_LAST_ROUND) {
        test.change();
        test.ask();
      }
    }
    CHECKS.end();
  }

  private void change() {
    calls++;
    switch (CHECKS.below(8)) {
      case 0 -> {
        x.scrap();
        draft = "";
      }
      case 1, 2 -> build();
      case 3 -> load();
      case 4 -> draftImage();
      default -> putSome();
    }
  }

  private void putSome() {
    int times = 1 + CHECKS.below(13);
    calls += times;
    String alphabet = ALPHABETS[CHECKS.below(ALPHABETS.length)];
    for (int t = 0; t < times; t++) {
      String more = CHECKS.textOf(alphabet, CHECKS.below(9));
      boolean due = draft.length() + more.length() <= 97;
      CHECKS.due("put(" + more + ")", x.put(Checks.word(more)), due);
      draft = due ? draft + more : draft;
    }
  }

  private void build() {
    if (draft.indexOf('$') >= 0 || draft.length() > 96) {
      CHECKS.due("build() of " + draft, x.build(), -1);
      return;
    }
    model = new PlainModel(step, draft);
    CHECKS.due("build() of " + draft, x.build(), model.sequences.size());
    draft = "";
  }

  /** Drafts the image of a text, half of the times with two symbols changed for each other. */
  private void draftImage() {
    String text = CHECKS.textOf(ALPHABETS[CHECKS.below(7)], CHECKS.below(97));
    char[] image = new PlainModel(step, text).image().toCharArray();
    if (CHECKS.below(2) == 0) {
      int one = CHECKS.below(image.length);
      int other = CHECKS.below(image.length);
      char kept = image[one];
      image[one] = image[other];
      image[other] = kept;
    }
    x.scrap();
    calls += 14;
    draft = new String(image);
    CHECKS.due("put of " + draft, Checks.putAll(x, draft), true);
    load();
  }

  private void load() {
    String text = textOfImage(draft);
    CHECKS.due("load() of " + draft, x.load(), text != null);
    if (text != null) {
      model = new PlainModel(step, text);
      draft = "";
    }
  }

  /**
   * The text of an image, or null: sorts all rotations by putting the image before the sorted
   * columns again and again, which needs no links, then looks whether the image comes back.
   */
  private static String textOfImage(String image) {
    if (image.chars().filter(c -> c == '$').count() != 1) {
      return null;
    }
    // The order of characters in Java is made that of symbols.
    String ordered = image.replace('|', '%');
    String[] rows = new String[image.length()];
    java.util.Arrays.fill(rows, "");
    for (int column = 0; column < rows.length; column++) {
      for (int k = 0; k < rows.length; k++) {
        rows[k] = ordered.charAt(k) + rows[k];
      }
      java.util.Arrays.sort(rows);
    }
    String text = rows[0].substring(1).replace('%', '|');
    boolean back = text.indexOf('$') < 0 && new PlainModel(4, text).image().equals(image);
    return back ? text : null;
  }

  private void ask() {
    calls += 20;
    if (model == null) {
      CHECKS.due("size()", x.size(), 0);
      CHECKS.due("sequences()", x.sequences(), 0);
      return;
    }
    CHECKS.due("size()", x.size(), model.text.length() + 1);
    CHECKS.due("sequences()", x.sequences(), model.sequences.size());
    CHECKS.due("image", Checks.imageOf(x), model.image());
    int k = CHECKS.below(x.size() + 2) - 1;
    CHECKS.due("suffix(" + k + ") of " + model.text, x.suffix(k), model.suffix(k));
    CHECKS.due("walk(" + k + ") of " + model.text, x.walk(k), model.walk(k));
    int code = "$|abxz".charAt(CHECKS.below(6));
    CHECKS.due("rank(" + code + ", " + k + ") of " + model.text, x.rank(code, k), model.rank(code, k));
    int s = CHECKS.below(model.sequences.size() + 2) - 1;
    int offset = CHECKS.below(Math.max(0, model.length(s)) + 3) - 1;
    CHECKS.due("length(" + s + ") of " + model.text, x.length(s), model.length(s));
    CHECKS.due("extract(" + s + ", " + offset + ") of " + model.text, x.extract(s, offset), model.extract(s, offset));
    askFor(patternToAskFor());
  }

  /** Half of the times a piece of the text, perhaps with one letter changed. */
  private String patternToAskFor() {
    String letters = model.text.replace("|", "");
    if (letters.isEmpty() || CHECKS.below(2) == 0) {
      return CHECKS.textOf("abcz", 1 + CHECKS.below(8));
    }
    int from = CHECKS.below(letters.length());
    char[] piece = letters.substring(from, Math.min(letters.length(), from + 1 + CHECKS.below(8))).toCharArray();
    if (CHECKS.below(2) == 0) {
      piece[CHECKS.below(piece.length)] = 'b';
    }
    return new String(piece);
  }

  private void askFor(String pattern) {
    long word = Checks.word(pattern);
    String of = pattern + " in " + model.text;
    List<Integer> occurrences = model.occurrences(pattern);
    CHECKS.due("count of " + of, x.count(word), occurrences.size());
    for (int i = -1; i <= occurrences.size(); i++) {
      boolean there = i >= 0 && i < occurrences.size();
      CHECKS.due("place " + i + " of " + of, x.place(word, i), there ? occurrences.get(i) : -1);
    }
    int k = CHECKS.below(5);
    List<Integer> matches = model.matches(pattern, k);
    calls += occurrences.size() + matches.size() + 6;
    CHECKS.due("matches with " + k + " of " + of, x.matches(word, k), matches.size());
    for (int i = -1; i <= matches.size(); i++) {
      boolean there = i >= 0 && i < matches.size();
      CHECKS.due("match " + i + " with " + k + " of " + of, x.match(word, k, i), there ? matches.get(i) : -1);
    }
  }
}
