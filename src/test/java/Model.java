import java.math.BigInteger;
import java.util.ArrayDeque;
import java.util.ArrayList;
import java.util.Arrays;
import java.util.Deque;
import java.util.LinkedHashSet;
import java.util.List;
import java.util.Objects;
import java.util.Set;
import java.util.TreeMap;

/**
 * The document's words once more, as plainly as the Java library lets them be said: ways are texts, all is tried
 * out, nothing is remembered. ModelTest holds the program against it. Its face is that of PolicyRoutes.
 */
final class Model {
  private static final int BAD = -1, NOT = -2, FULL = -3, NONE = -4, NULL = -11, CAST = -12, INDEX = -13, SIZE = -14;

  /** All that is undone or kept as an image. */
  private static final class State {
    int n = 4;
    int[][] sort = new int[6][6];
    boolean[][] cut = new boolean[6][6];
    int[][] like = new int[6][6];
    int[] manner = {3, 3, 3, 3, 3, 3};
    int[] bars = new int[6];
    String[] chosen = {"0", null, null, null, null, null};
    int draw = 1;

    State twin() {
      State t = new State();
      t.n = n;
      for (int a = 0; a < 6; a++) {
        t.sort[a] = sort[a].clone();
        t.cut[a] = cut[a].clone();
        t.like[a] = like[a].clone();
      }
      t.manner = manner.clone();
      t.bars = bars.clone();
      t.chosen = chosen.clone();
      t.draw = draw;
      return t;
    }
  }

  private State s = new State();
  private Deque<State> past = new ArrayDeque<>();
  private State image = null;
  private Deque<State> imagePast = null;
  private final StringBuilder tape = new StringBuilder();
  private final long[][] sheets = new long[4][];
  private final int[] lanes = new int[4];

  private void keep() {
    past.addLast(s.twin());
    if (past.size() > 6) past.removeFirst();
  }

  private boolean dom(int d) { return d >= 0 && d < s.n; }

  // ---- ways

  private static int at(String way, int k) { return way.charAt(k) - '0'; }

  private boolean lets(int e, String way, int d) {
    if ((s.manner[e] & 2) == 0) return true;
    if (s.sort[e][d] == 1) return true;
    if (way.equals("0")) return true;
    return s.sort[e][at(way, 1)] == 1;
  }

  private boolean barsOneOf(int d, String way) {
    for (char c : way.toCharArray()) if ((s.bars[d] >> (c - '0') & 1) == 1) return true;
    return false;
  }

  private boolean takes(int d, String way) {
    int e = at(way, 0);
    return d != e && s.sort[d][e] != 0 && !s.cut[d][e] && way.indexOf('0' + d) < 0 && !barsOneOf(d, way) && lets(e, way, d);
  }

  /** Below 0: the first is better. */
  private int compare(String p, String q) {
    int d = at(p, 0);
    if (p.length() > 1 && q.length() > 1) {
      int e = at(p, 1), f = at(q, 1);
      if ((s.manner[d] & 1) == 1 && s.sort[d][e] != s.sort[d][f]) return s.sort[d][e] - s.sort[d][f];
      if (s.like[d][e] != s.like[d][f]) return s.like[d][f] - s.like[d][e];
    }
    if (p.length() != q.length()) return p.length() - q.length();
    return p.compareTo(q);
  }

  private Set<String> permitted() {
    Set<String> all = new LinkedHashSet<>(List.of("0"));
    for (boolean more = true; more; ) {
      more = false;
      for (String way : new ArrayList<>(all))
        for (int d = 1; d < s.n; d++)
          if (takes(d, way)) more |= all.add(d + way);
    }
    return all;
  }

  private List<String> permittedTo(int d) {
    List<String> own = new ArrayList<>();
    for (String way : permitted()) if (at(way, 0) == d) own.add(way);
    own.sort(this::compare);
    return own;
  }

  private String would(int d, String[] chosen) {
    if (d == 0) return "0";
    String best = null;
    for (int e = 0; e < s.n; e++)
      if (chosen[e] != null && takes(d, chosen[e]) && (best == null || compare(d + chosen[e], best) < 0)) best = d + chosen[e];
    return best;
  }

  private int discontent(String[] chosen) {
    int set = 0;
    for (int d = 0; d < s.n; d++) if (!Objects.equals(chosen[d], would(d, chosen))) set |= 1 << d;
    return set;
  }

  private String[] turned(String[] chosen) {
    String[] next = new String[6];
    for (int d = 0; d < s.n; d++) next[d] = would(d, chosen);
    return next;
  }

  private static int number(String way) { return way == null ? NONE : Integer.parseInt(way); }

  /** The ways by next domains (9: none) of 1, 2, ..; null for those that don't come to 0. */
  private String[] along(int[] next) {
    String[] chosen = new String[6];
    chosen[0] = "0";
    for (int d = 1; d < s.n; d++) {
      StringBuilder way = new StringBuilder().append(d);
      int e = d;
      while (e != 0 && e != 9 && way.length() < 20) {
        e = next[e];
        way.append(e);
      }
      if (e == 0) chosen[d] = way.toString();
    }
    return chosen;
  }

  private List<String[]> stableChoices() {
    TreeMap<Integer, String[]> found = new TreeMap<>();
    int[] next = new int[6];
    int total = 1;
    for (int d = 1; d < s.n; d++) total *= s.n + 1;
    each:
    for (int code = 0; code < total; code++) {
      int rest = code, figures = 0;
      for (int d = 1; d < s.n; d++) {
        next[d] = rest % (s.n + 1) == s.n ? 9 : rest % (s.n + 1);
        rest /= s.n + 1;
        if (next[d] == d) continue each;
        figures = figures * 10 + next[d];
      }
      String[] chosen = along(next);
      for (int d = 1; d < s.n; d++) if (next[d] != 9 && chosen[d] == null) continue each;
      if (discontent(chosen) == 0) found.put(figures, chosen);
    }
    return new ArrayList<>(found.values());
  }

  // ---- 1 domains

  public int link(int a, int b, int sort) {
    if (!dom(a) || !dom(b) || sort < 0 || sort > 3 || a == b) return BAD;
    int was = s.sort[a][b];
    if (was == sort && !s.cut[a][b]) return NOT;
    keep();
    putLink(a, b, sort);
    return was;
  }

  private void putLink(int a, int b, int sort) {
    s.sort[a][b] = sort;
    s.sort[b][a] = sort == 1 ? 3 : sort == 3 ? 1 : sort;
    s.cut[a][b] = s.cut[b][a] = false;
  }

  public int cut(int a, int b) {
    if (!dom(a) || !dom(b) || a == b) return BAD;
    if (s.sort[a][b] == 0) return NONE;
    keep();
    s.cut[a][b] = s.cut[b][a] = !s.cut[a][b];
    return s.cut[a][b] ? 1 : 0;
  }

  public int like(int a, int b, int v) {
    if (!dom(a) || !dom(b) || a == b || v < 0 || v > 9) return BAD;
    int was = s.like[a][b];
    if (was == v) return NOT;
    keep();
    s.like[a][b] = v;
    return was;
  }

  public int manner(int d, int m) {
    if (!dom(d) || m < 0 || m > 3) return BAD;
    int was = s.manner[d];
    if (was == m) return NOT;
    keep();
    s.manner[d] = m;
    return was;
  }

  public int bar(int d, int set) {
    if (!dom(d) || set < 0 || set >> s.n != 0 || (set >> d & 1) == 1) return BAD;
    int was = s.bars[d];
    if (was == set) return NOT;
    keep();
    s.bars[d] = set;
    return was;
  }

  public int domains(int v) {
    if (v < 2 || v > 6) return BAD;
    int was = s.n;
    if (was == v) return NOT;
    keep();
    State old = s;
    s = new State();
    s.n = v;
    s.draw = old.draw;
    for (int a = 0; a < Math.min(v, was); a++) {
      s.manner[a] = old.manner[a];
      for (int b = 0; b < Math.min(v, was); b++) {
        s.sort[a][b] = old.sort[a][b];
        s.cut[a][b] = old.cut[a][b];
        s.like[a][b] = old.like[a][b];
        s.bars[a] |= old.bars[a] & 1 << b;
      }
    }
    return was;
  }

  public int told(int a, int b, int what) {
    if (!dom(a) || !dom(b) || a == b || what < 0 || what > 2) return BAD;
    return what == 0 ? s.sort[a][b] : what == 1 ? (s.cut[a][b] ? 1 : 0) : s.like[a][b];
  }

  public int own(int d, int what) {
    if (!dom(d) || what < 0 || what > 4) return BAD;
    if (what == 0) return s.manner[d];
    if (what == 1) return s.bars[d];
    if (what == 2) return permittedTo(d).size();
    return number(what == 3 ? s.chosen[d] : would(d, s.chosen));
  }

  public int way(int d, int k) {
    if (!dom(d) || k < 0) return BAD;
    List<String> own = permittedTo(d);
    return k < own.size() ? number(own.get(k)) : NONE;
  }

  public int why(int way) {
    String row = Integer.toString(way);
    if (!row.matches("[0-5]{0,5}0") || row.chars().anyMatch(c -> c - '0' >= s.n)) return BAD;
    for (int k = row.length() - 2; k >= 0; k--) {
      int d = at(row, k), e = at(row, k + 1);
      String behind = row.substring(k + 1);
      int that = d == e || s.sort[d][e] == 0 || s.cut[d][e] ? 1 : behind.indexOf('0' + d) >= 0 ? 2
          : barsOneOf(d, behind) ? 3 : !lets(e, behind, d) ? 4 : 0;
      if (that != 0) return 100 * that + 10 * d + k;
    }
    return permitted().contains(row) ? 0 : -99;
  }

  public int count(int what) {
    int links = 0, cuts = 0, choosers = 0;
    for (int a = 0; a < s.n; a++) {
      if (s.chosen[a] != null) choosers |= 1 << a;
      for (int b = 0; b < a; b++) {
        if (s.sort[a][b] != 0) links++;
        if (s.sort[a][b] != 0 && s.cut[a][b]) cuts++;
      }
    }
    switch (what) {
      case 0: return s.n;
      case 1: return links;
      case 2: return cuts;
      case 3: return choosers;
      case 4: return discontent(s.chosen);
      case 5: return permitted().size();
      case 6: return stableChoices().size();
      case 7: return past.size();
      default: return BAD;
    }
  }

  public int type(int letter) {
    if (letter < 32 || letter > 126) return BAD;
    if (tape.length() == 80) return FULL;
    return tape.append((char) letter).length();
  }

  public int read() {
    String text = tape.toString();
    tape.setLength(0);
    State fresh = s.twin();
    fresh.sort = new int[6][6];
    fresh.cut = new boolean[6][6];
    State was = s;
    s = fresh;
    int answer = readInto(text);
    s = was;
    if (answer >= 0) {
      keep();
      s = fresh;
    }
    return answer;
  }

  private static int skip(String text, int at) {
    while (at < text.length() && text.charAt(at) == ' ') at++;
    return at;
  }

  private static char letter(String text, int at) { return at < text.length() ? text.charAt(at) : '~'; }

  private int readInto(String text) {
    int links = 0;
    int at = skip(text, 0);
    if (at == text.length()) return 0;
    while (true) {
      int a = letter(text, at) - '0';
      if (!dom(a)) return -20 - at;
      at = skip(text, at + 1);
      int sort = 1 + ">-<".indexOf(letter(text, at));
      if (sort == 0) return -20 - at;
      at = skip(text, at + 1);
      int b = letter(text, at) - '0';
      if (!dom(b) || a == b || s.sort[a][b] != 0) return -20 - at;
      putLink(a, b, sort);
      links++;
      at = skip(text, at + 1);
      if (letter(text, at) == '!') {
        s.cut[a][b] = s.cut[b][a] = true;
        at = skip(text, at + 1);
      }
      if (at == text.length()) return links;
      if (letter(text, at) != ',') return -20 - at;
      at = skip(text, at + 1);
    }
  }

  // ---- 2 choices

  private int doTurn() {
    String[] next = turned(s.chosen);
    int otherwise = 0;
    for (int d = 0; d < 6; d++) if (!Objects.equals(next[d], s.chosen[d])) otherwise++;
    s.chosen = next;
    return otherwise;
  }

  public int turn() {
    if (discontent(s.chosen) != 0) keep();
    return doTurn();
  }

  private int doChoose(int d) {
    String best = would(d, s.chosen);
    boolean otherwise = !Objects.equals(best, s.chosen[d]);
    s.chosen[d] = best;
    return otherwise ? 1 : 0;
  }

  public int choose(int d) {
    if (!dom(d)) return BAD;
    if ((discontent(s.chosen) >> d & 1) == 1) keep();
    return doChoose(d);
  }

  public int rest() {
    if (discontent(s.chosen) != 0) keep();
    for (int k = 0; k < 40; k++) {
      if (discontent(s.chosen) == 0) return k;
      doTurn();
    }
    return discontent(s.chosen) == 0 ? 40 : NONE;
  }

  public int clear() {
    int had = Integer.bitCount(count(3)) - 1;
    if (had == 0) return NOT;
    keep();
    s.chosen = new State().chosen;
    return had;
  }

  public int foreseen(int what) {
    if (what < 0 || what > 2) return BAD;
    List<String[]> seen = new ArrayList<>();
    seen.add(s.chosen);
    for (int j = 1; j <= 60; j++) {
      String[] now = turned(seen.get(j - 1));
      for (int i = 0; i < j; i++)
        if (Arrays.equals(seen.get(i), now)) return what == 1 ? j - i : what == 0 && j - i != 1 ? NONE : i;
      seen.add(now);
    }
    return NONE;
  }

  public int stable(int k, int d) {
    if (k < 0 || !dom(d)) return BAD;
    List<String[]> all = stableChoices();
    return k < all.size() ? number(all.get(k)[d]) : NOT;
  }

  private boolean leads(String p, String r, Set<String> permitted) {
    if (r.length() < 2) return false;
    String u = r.substring(0, 1), tail = r.substring(1);
    if (tail.equals(p)) return true;
    if (p.charAt(0) != tail.charAt(0) || compare(p, tail) >= 0) return false;
    return !permitted.contains(u + p) || compare(u + p, r) > 0;
  }

  public int ring(int what) {
    if (what < 0 || what > 3) return BAD;
    Set<String> permitted = permitted();
    List<String> all = new ArrayList<>(permitted);
    int size = all.size();
    List<List<Integer>> next = new ArrayList<>();
    for (String p : all) {
      List<Integer> to = new ArrayList<>();
      for (int r = 0; r < size; r++) if (leads(p, all.get(r), permitted)) to.add(r);
      next.add(to);
    }
    int shortest = Integer.MAX_VALUE, members = 0, least = Integer.MAX_VALUE;
    for (int w = 0; w < size; w++) {
      int length = around(w, next);
      if (length == 0) continue;
      shortest = Math.min(shortest, length);
      members++;
      least = Math.min(least, number(all.get(w)));
    }
    switch (what) {
      case 0: return members > 0 ? 1 : 0;
      case 1: return members > 0 ? shortest : NONE;
      case 2: return members;
      default: return members > 0 ? least : NONE;
    }
  }

  private static int around(int w, List<List<Integer>> next) {
    int[] steps = new int[next.size()];
    Deque<Integer> queue = new ArrayDeque<>(List.of(w));
    while (!queue.isEmpty()) {
      int v = queue.removeFirst();
      for (int to : next.get(v)) {
        if (to == w) return steps[v] + 1;
        if (steps[to] == 0) {
          steps[to] = steps[v] + 1;
          queue.addLast(to);
        }
      }
    }
    return 0;
  }

  public long fail(int d, int c, int what) {
    if (!dom(d) || c < 0 || c > 10 || what < 0 || what > 1) return BAD;
    List<String> links = new ArrayList<>();
    for (int a = 0; a < s.n; a++)
      for (int b = 0; b < a; b++) if (s.sort[a][b] != 0 && !s.cut[a][b]) links.add("" + a + b);
    List<String> own = permittedTo(d);
    int[] uses = new int[own.size()];
    for (int w = 0; w < uses.length; w++)
      for (int k = 0; k < links.size(); k++) {
        String pair = links.get(k), back = new StringBuilder(pair).reverse().toString();
        if (own.get(w).contains(pair) || own.get(w).contains(back)) uses[w] |= 1 << k;
      }
    BigInteger above = BigInteger.ZERO;
    for (int failing = 0; failing < 1 << links.size(); failing++) {
      boolean left = false;
      for (int use : uses) left |= (use & failing) == 0;
      int bad = Integer.bitCount(failing);
      if (left) above = above.add(BigInteger.valueOf(c).pow(bad).multiply(BigInteger.valueOf(10 - c).pow(links.size() - bad)));
    }
    BigInteger below = BigInteger.TEN.pow(links.size());
    return (what == 0 ? above : below).divide(above.gcd(below)).longValueExact();
  }

  public int seen(int d) {
    if (!dom(d)) return BAD;
    int was = s.manner[d], set = 0;
    for (int m = 0; m < 4; m++) {
      s.manner[d] = m;
      if (discontent(s.chosen) == 0) set |= 1 << m;
    }
    s.manner[d] = was;
    return set;
  }

  // ---- 3 what is done

  public int drift(int turns) {
    if (turns < 1 || turns > 40) return BAD;
    for (int k = 0; k < turns; k++) {
      keep();
      s.draw = BigInteger.valueOf(s.draw).multiply(BigInteger.valueOf(1103515245)).add(BigInteger.valueOf(12345))
          .mod(BigInteger.ONE.shiftLeft(31)).intValueExact();
      int x = s.draw / 65536, y = x / 8, a = y % s.n, b = (y / 8) % s.n, v = y / 64, what = x % 8;
      if (what == 0 && a != b) putLink(a, b, v % 4);
      if (what == 1 && a != b && s.sort[a][b] != 0) s.cut[a][b] = s.cut[b][a] = !s.cut[a][b];
      if (what == 2 && a != b) s.like[a][b] = v % 10;
      if (what == 3) s.manner[a] = v % 4;
      if (what == 4 && a != b) s.bars[a] ^= 1 << b;
      if (what == 5 || what == 6) doTurn();
      if (what == 7) doChoose(a);
    }
    return count(3);
  }

  public int undo() {
    if (past.isEmpty()) return NONE;
    s = past.removeLast();
    return past.size();
  }

  public int seed(int v) {
    if (v < 0) return BAD;
    int was = s.draw;
    s.draw = v;
    return was;
  }

  private static Deque<State> twins(Deque<State> of) {
    Deque<State> copies = new ArrayDeque<>();
    for (State one : of) copies.addLast(one.twin());
    return copies;
  }

  public int image() {
    image = s.twin();
    imagePast = twins(past);
    return 1;
  }

  public int restore() {
    if (image == null) return NONE;
    s = image.twin();
    past = twins(imagePast);
    return 1;
  }

  // ---- sheets

  private int refusal(int sheet, int lane, long i, int n) {
    if (sheet < 0 || sheet > 3 || lane < 0 || lane > 3) return BAD;
    if (sheets[sheet] == null) return NULL;
    if (lanes[sheet] != lane) return CAST;
    return i < 0 || i + n > sheets[sheet].length ? INDEX : 0;
  }

  public int tried(int sheet, int lane, int i) {
    int refused = refusal(sheet, lane, i, s.n - 1);
    if (refused != 0) return refused;
    int[] next = new int[6];
    for (int d = 1; d < s.n; d++) {
      long item = sheets[sheet][i + d - 1];
      if (item != 9 && (item < 0 || item >= s.n)) return NOT;
      next[d] = (int) item;
    }
    return discontent(along(next));
  }

  public int film(int sheet, int lane, int i) {
    int refused = refusal(sheet, lane, i, s.n - 1);
    if (refused != 0) return refused;
    for (int d = 1; d < s.n; d++) sheets[sheet][i + d - 1] = s.chosen[d] == null ? 9 : at(s.chosen[d], 1);
    return s.n - 1;
  }

  public int sheet(int sheet, int lane, int n) {
    if (sheet < 0 || sheet > 3 || lane < 0 || lane > 3 || n > 24) return BAD;
    if (n < 0) return SIZE;
    sheets[sheet] = new long[n];
    lanes[sheet] = lane;
    return n;
  }

  public int drop(int sheet) {
    if (sheet < 0 || sheet > 3) return BAD;
    if (sheets[sheet] == null) return NULL;
    int had = sheets[sheet].length;
    sheets[sheet] = null;
    return had;
  }

  public int item(int sheet, int lane, int i, long v) {
    int refused = refusal(sheet, lane, i, 1);
    if (refused != 0) return refused;
    int away = 64 - (8 << lane);
    sheets[sheet][i] = v << away >> away;
    return 1;
  }

  public int copy(int from, int i, int to, int j, int n) {
    if (from < 0 || from > 3 || to < 0 || to > 3) return BAD;
    if (sheets[from] == null || sheets[to] == null) return NULL;
    if (lanes[from] != lanes[to]) return CAST;
    if (n < 0 || i < 0 || j < 0 || (long) i + n > sheets[from].length || (long) j + n > sheets[to].length) return INDEX;
    long[] taken = Arrays.copyOfRange(sheets[from], i, i + n);
    System.arraycopy(taken, 0, sheets[to], j, n);
    return n;
  }
}
