import java.util.HashMap;
import java.util.Map;

/** Promises 4 and 5 for every draft of up to six symbols of $, |, a and b. */
public final class SmallDraftsTest {
  private static final Checks CHECKS = new Checks();
  private static final String LETTERS = "$|ab";
  private static final int LONGEST = 6;

  public static void main(String[] args) {
    Map<String, String> textOfImage = new HashMap<>();
    for (int length = 0; length < LONGEST; length++) {
      for (int number = 0; number < 1 << (2 * length); number++) {
        String text = listOf(number, length);
        if (text.indexOf('$') < 0) {
          textOfImage.put(new PlainModel(4, text).image(), text);
        }
      }
    }
    for (int length = 0; length <= LONGEST; length++) {
      for (int number = 0; number < 1 << (2 * length); number++) {
        String draft = listOf(number, length);
        SelfIndexedSequences x = Checks.built(2, "xy|z");
        String content = tryLoad(x, draft, textOfImage.get(draft), "xy|z");
        tryBuild(x, draft, content);
      }
    }
    CHECKS.end();
  }

  private static String listOf(int number, int length) {
    StringBuilder list = new StringBuilder();
    for (int k = 0; k < length; k++) {
      list.append(LETTERS.charAt(number >> (2 * k) & 3));
    }
    return list.toString();
  }

  private static String tryLoad(SelfIndexedSequences x, String draft, String text, String before) {
    x.scrap();
    x.put(Checks.word(draft));
    CHECKS.due("load() of " + draft, x.load(), text != null);
    String due = text == null ? before : text;
    CHECKS.due("text after load() of " + draft, Checks.contentOf(x), due);
    return due;
  }

  private static void tryBuild(SelfIndexedSequences x, String draft, String before) {
    x.scrap();
    x.put(Checks.word(draft));
    boolean text = draft.indexOf('$') < 0;
    int sequences = text ? new PlainModel(2, draft).sequences.size() : -1;
    CHECKS.due("build() of " + draft, x.build(), sequences);
    CHECKS.due("text after build() of " + draft, Checks.contentOf(x), text ? draft : before);
  }
}
