import java.math.BigInteger;
import java.util.ArrayList;
import java.util.HashSet;
import java.util.List;
import java.util.Set;
import java.util.regex.Matcher;
import java.util.regex.Pattern;

/**
 * Promises 4, 5, 6 and 48 on many TEXTS that are nearly right: a second reader, which cuts the TEXT into parts first and
 * looks then at which part must be, tells the same FAULT, the same MACHINE, the same STEPS.
 */
public final class FaultWalksTest {
  private static final Check check = new Check("FaultWalksTest");
  private static final int N = Check.N;
  private static final int H = Check.H;
  private static final List<String> RULES = List.of("pages", "cores", "hold", "key");
  private static final int[] LEAST = {3, 1, 1, 1};
  private static final int[] MOST = {10, 3, 3, 999};
  private static final List<String> STEPS = List.of("create", "slots", "add", "extend", "seal", "enter", "leave", "trap", "resume", "touch",
      "block", "track", "evict", "load", "remove", "map");
  private static final int[] NUMBERS = {1, 0, 5, 2, 1, 3, 1, 1, 3, 3, 1, 1, 3, 3, 1, 3};
  private static final Pattern PART = Pattern.compile("[a-z]+|[0-9]+|[^ ]", Pattern.DOTALL);
  private static final String SIGNS = "  ;;,,0123456789akpsz\t\n-:/`{A" + (char) 1 + (char) 127 + (char) 160 + (char) 255;
  private static long seed = 20261119;

  public static void main(String[] args) {
    int without = 0;
    for (int walk = 0; walk < 12000; walk++) without += walk(walk % 2) ? 1 : 0;
    check.is("many TEXTS without a FAULT, and many with one", without > 3000 && without < 9000, true);
    check.finish();
  }

  private static int any(int bound) {
    seed = seed * 6364136223846793005L + 1442695040888963407L;
    return (int) ((seed >>> 33) % bound);
  }

  /** Whether there was no FAULT. */
  private static boolean walk(int sort) {
    String text = spoilt(sort == 0 ? machine() : script());
    if (text.length() > 320) text = text.substring(0, 320);
    ClosedRooms x = new ClosedRooms();
    Reader mine = new Reader(text);
    Reader other = new Reader(text);
    int due = sort == 0 ? mine.machine() : mine.script();
    String at = (sort == 0 ? "MACHINE '" : "SCRIPT '") + text + "'";
    check.is(at + " fed", Check.put(x, text), text.length());
    check.is(at + " FAULT", x.fault(sort), due);
    check.is(at + " FAULT as the other sort", x.fault(1 - sort), sort == 0 ? other.script() : other.machine());
    if (due != N) check.is(at + " refused", x.text(sort), N);
    else if (sort == 0) machineIs(at, x, mine.rules);
    else scriptIs(at, x, mine.steps);
    check.is(at + " the TAPE then", x.count(2), due == N ? 0 : text.length());
    return due == N;
  }

  private static void machineIs(String at, ClosedRooms x, int[] rules) {
    check.is(at + " how many PAGES", x.text(0), rules[0]);
    for (int i = 0; i < 4; i++) check.is(at + " rule " + i, x.rule(i), rules[i]);
  }

  private static void scriptIs(String at, ClosedRooms x, List<int[]> steps) {
    check.is(at + " its number", x.text(1), 0);
    for (int i = 0; i < steps.size(); i++) {
      for (int what = 0; what < 6; what++) check.is(at + " STEP " + i + ", " + what, x.step(0, i, what), steps.get(i)[what]);
    }
    check.is(at + " no STEP behind", x.step(0, steps.size(), 0), H);
  }

  // ---- TEXTS ----

  private static String blanks() {
    return " ".repeat(any(4) == 0 ? any(3) : 0);
  }

  private static String machine() {
    StringBuilder text = new StringBuilder();
    List<Integer> left = new ArrayList<>(List.of(0, 1, 2, 3));
    for (int i = 1 + any(4); i > 0; i--) {
      int which = left.remove(any(left.size()));
      if (text.length() > 0) text.append(';');
      int number = LEAST[which] + any(MOST[which] - LEAST[which] + 1);
      text.append(blanks()).append(RULES.get(which)).append(any(4) == 0 ? "" : " ").append(blanks());
      text.append("0".repeat(any(5) == 0 ? any(12) : 0)).append(number).append(blanks());
    }
    return text.toString();
  }

  private static String script() {
    StringBuilder text = new StringBuilder();
    for (int i = any(6) == 0 ? 11 + any(4) : 1 + any(6); i > 0; i--) {
      int sort = any(16);
      if (text.length() > 0) text.append(';');
      text.append(blanks()).append(STEPS.get(sort)).append(any(4) == 0 ? "" : " ").append(blanks());
      for (int k = 0; k < NUMBERS[sort]; k++) {
        if (k > 0) text.append(',').append(blanks());
        text.append("0".repeat(any(9) == 0 ? any(12) : 0)).append(any(3) == 0 ? any(1000) : any(9)).append(blanks());
      }
    }
    return text.toString();
  }

  /** As it is, or with one or two places changed, taken out, put in, doubled, or cut there. */
  private static String spoilt(String text) {
    StringBuilder now = new StringBuilder(text);
    for (int i = any(3); i > 0; i--) {
      int at = any(now.length() + 1);
      char sign = SIGNS.charAt(any(SIGNS.length()));
      boolean behind = at == now.length();
      switch (any(8)) {
        case 0: now.setLength(at); break;
        case 1:
        case 2: if (!behind) now.deleteCharAt(at); break;
        case 3: if (!behind) now.setCharAt(at, sign); break;
        case 4: now.insert(at, now.substring(0, at)); break;
        case 5: now.insert(at, "9".repeat(any(25))); break;
        default: now.insert(at, sign); break;
      }
    }
    return now.toString();
  }

  // ---- the second reader ----

  private static final class Reader {
    private final String text;
    private final List<String> parts = new ArrayList<>();
    private final List<Integer> starts = new ArrayList<>();
    private int next = 0;
    final int[] rules = {8, 2, 2, 7};
    final List<int[]> steps = new ArrayList<>();

    Reader(String text) {
      this.text = text;
      Matcher found = PART.matcher(text);
      while (found.find()) {
        parts.add(found.group());
        starts.add(found.start());
      }
      parts.add("");
      starts.add(text.length());
    }

    private int here() {
      return starts.get(next);
    }

    /** A number of these bounds, or NONE. */
    private int number(int least, int most) {
      String part = parts.get(next);
      if (part.isEmpty() || !Character.isDigit(part.charAt(0)) || part.charAt(0) > '9') return N;
      BigInteger worth = new BigInteger(part);
      boolean fits = worth.compareTo(BigInteger.valueOf(least)) >= 0 && worth.compareTo(BigInteger.valueOf(most)) <= 0;
      return fits ? worth.intValue() : N;
    }

    private boolean atEnd() {
      return next == parts.size() - 1;
    }

    int machine() {
      Set<Integer> were = new HashSet<>();
      while (true) {
        int which = RULES.indexOf(parts.get(next));
        if (which < 0 || !were.add(which)) return here();
        next++;
        rules[which] = number(LEAST[which], MOST[which]);
        if (rules[which] == N) return here();
        next++;
        if (atEnd()) return N;
        if (!parts.get(next).equals(";")) return here();
        next++;
      }
    }

    int script() {
      while (true) {
        int sort = STEPS.indexOf(parts.get(next));
        if (sort < 0) return here();
        next++;
        int[] step = {sort, N, N, N, N, N};
        for (int k = 1; k <= NUMBERS[sort]; k++) {
          if (k > 1 && !parts.get(next).equals(",")) return here();
          if (k > 1) next++;
          step[k] = number(0, 999);
          if (step[k] == N) return here();
          next++;
        }
        steps.add(step);
        if (atEnd()) return N;
        if (!parts.get(next).equals(";") || steps.size() == 12) return here();
        next++;
      }
    }
  }
}
