/** What the tests share: counting wrong answers, texts as longs, and numbers that look random. */
final class Checks {
  private int wrong = 0;
  private int done = 0;
  private int sentences = 0;
  private String sentence = "";
  private long seed = 20261115L;

  /** The words of the document that the answers from here on belong to. */
  void sentence(String words) {
    sentences++;
    sentence = "\"" + words + "\": ";
  }

  void due(String call, long got, long want) {
    look(call, got == want, Long.toString(got), Long.toString(want));
  }

  void due(String call, boolean got, boolean want) {
    look(call, got == want, Boolean.toString(got), Boolean.toString(want));
  }

  void due(String call, String got, String want) {
    look(call, got.equals(want), got, want);
  }

  private void look(String call, boolean right, String got, String want) {
    done++;
    if (!right) {
      wrong++;
      if (wrong <= 40) {
        System.out.println(sentence + call + " answered " + got + ", due is " + want);
      }
    }
  }

  /** Ends the test, with exit code 1 if an answer was wrong or none was looked at. */
  void end() {
    String of = sentences == 0 ? "" : " for " + sentences + " sentences";
    System.out.println(done + " answers looked at" + of + ", " + wrong + " wrong");
    if (wrong != 0 || done == 0) {
      System.exit(1);
    }
  }

  /** A number from 0 on and below bound; the same ones in every run. */
  int below(int bound) {
    seed = seed * 6364136223846793005L + 1442695040888963407L;
    return (int) ((seed >>> 33) % bound);
  }

  String textOf(String letters, int length) {
    StringBuilder text = new StringBuilder();
    for (int k = 0; k < length; k++) {
      text.append(letters.charAt(below(letters.length())));
    }
    return text.toString();
  }

  /** Up to eight characters as a long, the first in the lowest byte. */
  static long word(String characters) {
    long word = 0L;
    for (int b = 0; b < characters.length(); b++) {
      word |= (long) characters.charAt(b) << (8 * b);
    }
    return word;
  }

  /** The bytes of a long that are not 0, as characters. */
  static String letters(long word) {
    StringBuilder characters = new StringBuilder();
    for (int b = 0; b < 8; b++) {
      char character = (char) (word >>> (8 * b) & 255);
      if (character != 0) {
        characters.append(character);
      }
    }
    return characters.toString();
  }

  /** Puts a text of any length, eight symbols a call; false if one of the calls answered false. */
  static boolean putAll(SelfIndexedSequences x, String text) {
    boolean all = true;
    for (int from = 0; from < text.length(); from += 8) {
      all &= x.put(word(text.substring(from, Math.min(text.length(), from + 8))));
    }
    return all;
  }

  static SelfIndexedSequences drafted(int step, String text) {
    SelfIndexedSequences x = new SelfIndexedSequences(step);
    putAll(x, text);
    return x;
  }

  static SelfIndexedSequences built(int step, String text) {
    SelfIndexedSequences x = drafted(step, text);
    x.build();
    return x;
  }

  static SelfIndexedSequences loaded(int step, String image) {
    SelfIndexedSequences x = drafted(step, image);
    x.load();
    return x;
  }

  static String imageOf(SelfIndexedSequences x) {
    StringBuilder image = new StringBuilder();
    for (int k = 0; k < 13; k++) {
      image.append(letters(x.image(k)));
    }
    return image.toString();
  }

  /** The text of the index, from its sequences. */
  static String contentOf(SelfIndexedSequences x) {
    StringBuilder text = new StringBuilder();
    int sequences = x.sequences();
    for (int s = 0; s < sequences; s++) {
      if (s > 0) {
        text.append('|');
      }
      int length = x.length(s);
      for (int offset = 0; offset < length; offset += 8) {
        text.append(letters(x.extract(s, offset)));
      }
    }
    return text.toString();
  }

  /** An answer of every method from size() on, but for walk: equal ones for equal indexes. */
  static String answersOf(SelfIndexedSequences x) {
    StringBuilder all = new StringBuilder();
    all.append(x.size()).append(' ').append(imageOf(x)).append(' ').append(contentOf(x));
    for (int k = -1; k <= 12; k++) {
      all.append(' ').append(x.rank('a', k)).append(' ').append(x.suffix(k)).append(' ').append(x.length(k));
    }
    for (String pattern : new String[] {"a", "ab", "bra", "dab"}) {
      long word = word(pattern);
      all.append(" / ").append(x.count(word)).append(' ').append(x.matches(word, 2));
      for (int i = 0; i < 3; i++) {
        all.append(' ').append(x.place(word, i)).append(' ').append(x.match(word, 2, i));
      }
    }
    return all.toString();
  }
}
