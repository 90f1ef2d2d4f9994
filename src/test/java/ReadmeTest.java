import java.io.IOException;
import java.nio.file.Files;
import java.nio.file.Path;
import java.util.ArrayList;
import java.util.List;

/** Every call that README.md shows has the answer that stands behind it there, in its order. */
public final class ReadmeTest {
  private static final Checks CHECKS = new Checks();
  private static final List<String> SHOWN = new ArrayList<>();
  private static int looked = 0;

  public static void main(String[] args) throws IOException {
    for (String line : Files.readAllLines(Path.of("README.md"))) {
      if (line.startsWith("x.") || line.startsWith("y.")) {
        SHOWN.add(line);
      }
    }
    SelfIndexedSequences x = new SelfIndexedSequences(4);
    buildAndAsk(x);
    loadAndRefuse(x, new SelfIndexedSequences(16));
    CHECKS.due("calls shown in README.md", SHOWN.size(), looked);
    CHECKS.end();
  }

  private static void buildAndAsk(SelfIndexedSequences x) {
    shown("x.put(word(\"banana|\"))", "" + x.put(Checks.word("banana|")));
    shown("x.put(word(\"band\"))", "" + x.put(Checks.word("band")));
    shown("x.build()", "" + x.build());
    shown("x.sequences()", "" + x.sequences());
    shown("x.length(0)", "" + x.length(0));
    shown("x.extract(0, 2)", letters(x.extract(0, 2)));
    shown("x.count(word(\"an\"))", "" + x.count(Checks.word("an")));
    shown("x.place(word(\"an\"), 0)", "" + x.place(Checks.word("an"), 0));
    shown("x.place(word(\"an\"), 2)", "" + x.place(Checks.word("an"), 2));
    shown("x.place(word(\"an\"), 3)", "" + x.place(Checks.word("an"), 3));
    shown("x.matches(word(\"band\"), 1)", "" + x.matches(Checks.word("band"), 1));
    shown("x.match(word(\"band\"), 1, 0)", "" + x.match(Checks.word("band"), 1, 0));
    shown("x.match(word(\"band\"), 1, 3)", "" + x.match(Checks.word("band"), 1, 3));
    shown("x.size()", "" + x.size());
    shown("x.image(0)", letters(x.image(0)));
    shown("x.image(1)", letters(x.image(1)));
    shown("x.rank('a', 10)", "" + x.rank('a', 10));
    shown("x.suffix(0)", "" + x.suffix(0));
    shown("x.walk(0)", "" + x.walk(0));
  }

  private static void loadAndRefuse(SelfIndexedSequences x, SelfIndexedSequences y) {
    shown("y.put(word(\"banana$\"))", "" + y.put(Checks.word("banana$")));
    shown("y.load()", "" + y.load());
    y.scrap();
    shown("y.scrap()", "");
    shown("y.put(x.image(0))", "" + y.put(x.image(0)));
    shown("y.put(x.image(1))", "" + y.put(x.image(1)));
    shown("y.load()", "" + y.load());
    shown("y.extract(1, 0)", letters(y.extract(1, 0)));
    shown("y.put(word(\"a$\"))", "" + y.put(Checks.word("a$")));
    shown("y.build()", "" + y.build());
    shown("y.load()", "" + y.load());
    shown("y.build()", "" + y.build());
  }

  private static String letters(long word) {
    return "\"" + Checks.letters(word) + "\"";
  }

  /** Looks whether the next line of README.md is this call, with this answer behind it. */
  private static void shown(String call, String answer) {
    String line = looked < SHOWN.size() ? SHOWN.get(looked) : "";
    looked++;
    String[] parts = line.split("//", 2);
    CHECKS.due("call " + looked + " of README.md", call + ";", parts[0].trim());
    String words = parts.length < 2 ? "" : parts[1].trim();
    CHECKS.due(call, answer, words.split(": ", 2)[0]);
  }
}
