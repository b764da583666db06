import java.lang.reflect.Method;
import java.util.HashMap;
import java.util.Map;
import java.util.regex.Matcher;
import java.util.regex.Pattern;

/** What the tests share: answers held against those that are due, and objects brought to some state. */
abstract class Checks {
  static final int BAD = -1, NOT = -2, FULL = -3, NONE = -4, NULL = -11, CAST = -12, INDEX = -13, SIZE = -14;
  static final int LOW = Integer.MIN_VALUE, HIGH = Integer.MAX_VALUE;
  private static final Map<String, Long> NUMBERS = Map.of("BAD", -1L, "NOT", -2L, "FULL", -3L, "NONE", -4L, "NULL", -11L,
      "CAST", -12L, "INDEX", -13L, "SIZE", -14L, "LOW", (long) LOW, "HIGH", (long) HIGH);
  private static final Pattern CALL = Pattern.compile("(?:\"([^\"]*)\"|(\\w+)\\(([^)]*)\\))(?:\\s+(\\S+))?");
  private static final Map<String, Method> FACE = new HashMap<>();
  private static int wrong = 0;
  private static int asked = 0;

  static {
    for (Method m : PolicyRoutes.class.getMethods()) {
      if (m.getDeclaringClass() == PolicyRoutes.class) FACE.put(m.getName(), m);
    }
  }

  static void due(String what, long got, long want) {
    asked++;
    if (got != want) {
      wrong++;
      System.out.println(what + " answered " + got + ", due is " + want);
    }
  }

  /** Several answers in a row. */
  static void dues(String what, long[] got, long... want) {
    due(what + " (how many)", got.length, want.length);
    for (int k = 0; k < Math.min(got.length, want.length); k++) due(what + " (" + k + ")", got[k], want[k]);
  }

  static long[] of(long... got) { return got; }

  /** Tells how many answers were not as due, and ends with exit code 1 if there was one. */
  static void end() {
    System.out.println(asked + " answers, " + wrong + " not as due");
    if (wrong != 0) System.exit(1);
  }

  private static long number(String word) {
    Long named = NUMBERS.get(word);
    return named != null ? named : Long.parseLong(word);
  }

  /**
   * Calls told as a text, "link(0,1,2) 0; cut(1,0) 1", each with the answer that is due (or none, if it doesn't
   * matter); a text in double quotes is typed and read.
   */
  static void on(PolicyRoutes x, String sentence, String calls) {
    for (String call : calls.split(";")) {
      Matcher m = CALL.matcher(call.trim());
      if (!m.matches()) throw new IllegalArgumentException("no call: " + call + " of " + sentence);
      long got = m.group(1) != null ? read(x, m.group(1)) : call(x, m.group(2), m.group(3));
      if (m.group(4) != null) due(sentence + ": " + call.trim(), got, number(m.group(4)));
    }
  }

  /** Such calls on a new object. */
  static void run(String sentence, String calls) { on(new PolicyRoutes(), sentence, calls); }

  /** One call told as a text, "cut(1,0)". */
  static long answer(PolicyRoutes x, String text) {
    Matcher m = CALL.matcher(text);
    if (!m.matches() || m.group(2) == null) throw new IllegalArgumentException("no call: " + text);
    return call(x, m.group(2), m.group(3));
  }

  private static long call(PolicyRoutes x, String name, String told) {
    Method m = FACE.get(name);
    String[] words = told.isBlank() ? new String[0] : told.split(",");
    Object[] args = new Object[words.length];
    for (int k = 0; k < args.length; k++) {
      long v = number(words[k].trim());
      if (m.getParameterTypes()[k] == long.class) args[k] = v;
      else args[k] = Math.toIntExact(v);
    }
    try {
      return ((Number) m.invoke(x, args)).longValue();
    } catch (ReflectiveOperationException e) {
      throw new IllegalStateException(name + "(" + told + ")", e);
    }
  }

  static int read(PolicyRoutes x, String text) {
    for (char c : text.toCharArray()) x.type(c);
    return x.read();
  }

  static PolicyRoutes sized(int n) {
    PolicyRoutes x = new PolicyRoutes();
    x.domains(n);
    return x;
  }

  static PolicyRoutes with(int n, String text) {
    PolicyRoutes x = sized(n);
    read(x, text);
    return x;
  }

  /** All peers, none by sort: everything is let go and only likings rank. */
  static PolicyRoutes lax(int n) {
    PolicyRoutes x = sized(n);
    for (int a = 0; a < n; a++) {
      x.manner(a, 0);
      for (int b = 0; b < a; b++) x.link(a, b, 2);
    }
    return x;
  }

  /** Two domains that each would rather go by the other. */
  static PolicyRoutes disagree() {
    PolicyRoutes x = lax(3);
    x.like(1, 2, 1);
    x.like(2, 1, 1);
    return x;
  }

  /** Three that would each rather go by the next one, straight on, and by no other way: they never rest. */
  static PolicyRoutes restless() {
    PolicyRoutes x = lax(4);
    for (int d = 1; d <= 3; d++) {
      x.like(d, d % 3 + 1, 5);
      x.bar(d, 1 << (d + 1) % 3 + 1);
    }
    return x;
  }

  /** Six domains by a row of numbers: manners, bars, links of 1, 2, .. with lesser ones, likings. */
  static PolicyRoutes by(int... row) {
    PolicyRoutes x = sized(6);
    int k = 12;
    for (int a = 0; a < 6; a++) {
      x.manner(a, row[a]);
      x.bar(a, row[6 + a]);
      for (int b = 0; b < a; b++) x.link(a, b, row[k++]);
      for (int b = 0; b < 6; b++) x.like(a, b, row[27 + a * 6 + b]);
    }
    return x;
  }

  /** Comes to rest behind 51 turns. */
  static PolicyRoutes slow() {
    return by(0, 0, 1, 0, 1, 2, 0, 32, 0, 2, 8, 16, 2, 2, 1, 2, 1, 2, 3, 3, 1, 1, 3, 1, 1, 1, 2, 4, 7, 1, 9, 7, 6, 0, 4, 0,
        5, 0, 0, 9, 9, 3, 6, 3, 4, 1, 1, 3, 5, 8, 4, 2, 9, 7, 6, 1, 7, 2, 9, 4, 9, 3, 7);
  }

  /** Goes on for 74 turns ahead of all being as it was, but goes round faster. */
  static PolicyRoutes slower() {
    return by(2, 0, 1, 0, 1, 2, 2, 4, 8, 32, 0, 16, 1, 3, 3, 2, 3, 1, 0, 2, 2, 2, 3, 1, 0, 3, 3, 7, 1, 6, 5, 4, 3, 3, 4, 5,
        2, 2, 9, 2, 9, 4, 0, 8, 1, 7, 6, 8, 2, 6, 9, 5, 9, 9, 6, 8, 8, 5, 6, 4, 7, 9, 7);
  }

  /** Goes round by 78 turns. */
  static PolicyRoutes slowest() {
    return by(0, 0, 0, 2, 0, 0, 0, 8, 0, 4, 32, 16, 3, 1, 2, 1, 2, 3, 3, 3, 3, 2, 0, 3, 2, 3, 3, 2, 4, 1, 9, 1, 6, 4, 0, 0,
        1, 9, 4, 1, 0, 4, 8, 0, 1, 3, 1, 4, 4, 8, 7, 5, 7, 9, 0, 1, 9, 7, 8, 3, 2, 0, 3);
  }

  static void turns(PolicyRoutes x, int n) {
    for (int k = 0; k < n; k++) x.turn();
  }

  static long[] chosen(PolicyRoutes x) {
    long[] all = new long[x.count(0)];
    for (int d = 0; d < all.length; d++) all[d] = x.own(d, 3);
    return all;
  }

  /** A sheet becomes a row of these items. */
  static void fill(PolicyRoutes x, int sheet, int lane, long... items) {
    x.sheet(sheet, lane, items.length);
    for (int k = 0; k < items.length; k++) x.item(sheet, lane, k, items[k]);
  }
}
