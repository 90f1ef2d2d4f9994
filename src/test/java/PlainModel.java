import java.util.ArrayList;
import java.util.List;

/** The document's words done as plainly as can be on the text itself, to compare answers with. */
final class PlainModel {
  private static final String ORDER = "$|abcdefghijklmnopqrstuvwxyz";

  final int step;
  final String text;
  final List<String> sequences = new ArrayList<>();
  final List<Integer> suffixes = new ArrayList<>();

  PlainModel(int step, String text) {
    this.step = step >= 2 && step <= 16 ? step : 4;
    this.text = text;
    int from = 0;
    for (int k = 0; k <= text.length(); k++) {
      if (k == text.length() || text.charAt(k) == '|') {
        sequences.add(text.substring(from, k));
        from = k + 1;
      }
      suffixes.add(k);
    }
    suffixes.sort((a, b) -> compare(text.substring(a) + "$", text.substring(b) + "$"));
  }

  private static int compare(String one, String other) {
    for (int k = 0; k < one.length() && k < other.length(); k++) {
      int difference = ORDER.indexOf(one.charAt(k)) - ORDER.indexOf(other.charAt(k));
      if (difference != 0) {
        return difference;
      }
    }
    return one.length() - other.length();
  }

  String image() {
    StringBuilder image = new StringBuilder();
    for (int place : suffixes) {
      image.append(place == 0 ? '$' : text.charAt(place - 1));
    }
    return image.toString();
  }

  long imageWord(int k) {
    String image = image();
    if (k < 0 || 8L * k >= image.length()) {
      return 0L;
    }
    return Checks.word(image.substring(8 * k, Math.min(image.length(), 8 * k + 8)));
  }

  int rank(int code, int i) {
    String image = image();
    if (i < 0 || i > image.length() || code <= 0 || code > 255 || ORDER.indexOf((char) code) < 0) {
      return -1;
    }
    int found = 0;
    for (int k = 0; k < i; k++) {
      if (image.charAt(k) == code) {
        found++;
      }
    }
    return found;
  }

  int suffix(int k) {
    return k < 0 || k >= suffixes.size() ? -1 : suffixes.get(k);
  }

  int walk(int k) {
    return suffix(k) < 0 ? -1 : suffix(k) % step;
  }

  int length(int s) {
    return s < 0 || s >= sequences.size() ? -1 : sequences.get(s).length();
  }

  long extract(int s, int offset) {
    if (offset < 0 || offset >= length(s)) {
      return 0L;
    }
    String sequence = sequences.get(s);
    return Checks.word(sequence.substring(offset, Math.min(sequence.length(), offset + 8)));
  }

  List<Integer> occurrences(String pattern) {
    List<Integer> found = new ArrayList<>();
    for (int s = 0; s < sequences.size(); s++) {
      for (int offset = 0; offset < sequences.get(s).length(); offset++) {
        if (sequences.get(s).startsWith(pattern, offset)) {
          found.add(100 * s + offset);
        }
      }
    }
    return found;
  }

  List<Integer> matches(String pattern, int k) {
    List<Integer> found = new ArrayList<>();
    for (int s = 0; s < sequences.size(); s++) {
      for (int end = 0; end <= sequences.get(s).length(); end++) {
        int least = pattern.length();
        // A list more than twice as long as the pattern is farther from it than the empty one.
        for (int from = Math.max(0, end - 2 * pattern.length()); from <= end; from++) {
          least = Math.min(least, distance(pattern, sequences.get(s).substring(from, end)));
        }
        if (least <= k) {
          found.add(10000 * s + 10 * end + least);
        }
      }
    }
    return found;
  }

  static int distance(String one, String other) {
    int[][] table = new int[one.length() + 1][other.length() + 1];
    for (int a = 0; a <= one.length(); a++) {
      for (int b = 0; b <= other.length(); b++) {
        if (a == 0 || b == 0) {
          table[a][b] = a + b;
        } else {
          int change = one.charAt(a - 1) == other.charAt(b - 1) ? 0 : 1;
          table[a][b] = Math.min(table[a - 1][b - 1] + change,
              Math.min(table[a - 1][b], table[a][b - 1]) + 1);
        }
      }
    }
    return table[one.length()][other.length()];
  }
}
