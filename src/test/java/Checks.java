/** What the tests share: counting wrong answers, texts as longs, and numbers that look random. */
final class Checks {
  private int wrong = 0;
  private int done = 0;
  private long seed = 20261115L;

  void due(String call, long got, long want) {
    done++;
    if (got != want) {
      wrong++;
      if (wrong <= 40) {
        System.out.println(call + " answered " + got + ", due is " + want);
      }
    }
  }

  void due(String call, boolean got, boolean want) {
    due(call, got ? 1L : 0L, want ? 1L : 0L);
  }

  /** Ends the test, with exit code 1 if an answer was wrong or none was looked at. */
  void end() {
    System.out.println(done + " answers looked at, " + wrong + " wrong");
    if (wrong != 0 || done == 0) {
      System.exit(1);
    }
  }

  /** A number from 0 on and below bound; the same ones in every run. */
  int below(int bound) {
    seed = seed * 6364136223846793005L + 1442695040888963407L;
    return (int) ((seed >>> 33) % bound);
  }

  String textOf(String letters, int length) {
    StringBuilder text = new StringBuilder();
    for (int k = 0; k < length; k++) {
      text.append(letters.charAt(below(letters.length())));
    }
    return text.toString();
  }

  /** Up to eight characters as a long, the first in the lowest byte. */
  static long word(String characters) {
    long word = 0L;
    for (int b = 0; b < characters.length(); b++) {
      word |= (long) characters.charAt(b) << (8 * b);
    }
    return word;
  }

  /** Puts a text of any length, eight symbols a call; false if one of the calls answered false. */
  static boolean putAll(SelfIndexedSequences x, String text) {
    boolean all = true;
    for (int from = 0; from < text.length(); from += 8) {
      all &= x.put(word(text.substring(from, Math.min(text.length(), from + 8))));
    }
    return all;
  }

  static SelfIndexedSequences built(int step, String text) {
    SelfIndexedSequences x = new SelfIndexedSequences(step);
    putAll(x, text);
    x.build();
    return x;
  }

  static String imageOf(SelfIndexedSequences x) {
    StringBuilder image = new StringBuilder();
    for (int k = 0; k < x.size(); k++) {
      image.append((char) (x.image(k / 8) >>> (8 * (k % 8)) & 255));
    }
    return image.toString();
  }

  /** The text of the index, from its sequences. */
  static String contentOf(SelfIndexedSequences x) {
    StringBuilder text = new StringBuilder();
    for (int s = 0; s < x.sequences(); s++) {
      if (s > 0) {
        text.append('|');
      }
      for (int offset = 0; offset < x.length(s); offset++) {
        text.append((char) (x.extract(s, offset) & 255));
      }
    }
    return text.toString();
  }
}
