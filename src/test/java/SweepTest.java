import java.lang.reflect.Method;
import java.util.ArrayList;
import java.util.Arrays;
import java.util.HashMap;
import java.util.List;
import java.util.Map;

/** Every call with each of its numbers at each edge, in every combination, for each n; the model answers alike. */
public final class SweepTest extends Checks {
  /** Calls on one object, what brings it to its state not counted. */
  private static final int BATCH = 60;
  private static final long[] SHEET = {-1, 0, 1, 2, 3, 4};
  private static final long[] LANE = {-1, 0, 2, 3, 4};
  private static final long[] ITEM = {LOW, -1, 0, 1, 2, 4, 5, 6, 24, 25, HIGH};
  private static final long[] FIRST = {LOW, -1, 0, 1, 5, 6, 24, HIGH};
  private static final long[] LENGTH = {LOW, -1, 0, 1, 2, 5, 6, 24, 25, HIGH};

  private final Map<String, Method> program = methods(PolicyRoutes.class);
  private final Map<String, Method> model = methods(Model.class);
  private final int n;
  private PolicyRoutes x;
  private Model y;
  private int batch = BATCH;

  private SweepTest(int n) { this.n = n; }

  private static Map<String, Method> methods(Class<?> c) {
    Map<String, Method> all = new HashMap<>();
    for (Method m : c.getDeclaredMethods()) if (java.lang.reflect.Modifier.isPublic(m.getModifiers())) all.put(m.getName(), m);
    return all;
  }

  private void call(String name, long... numbers) throws Exception {
    Method m = program.get(name);
    Object[] args = new Object[numbers.length];
    for (int k = 0; k < args.length; k++) {
      if (m.getParameterTypes()[k] == long.class) args[k] = numbers[k];
      else args[k] = (int) numbers[k];
    }
    long got = ((Number) m.invoke(x, args)).longValue(), want = ((Number) model.get(name).invoke(y, args)).longValue();
    due("n " + n + ": " + name + Arrays.toString(numbers), got, want);
  }

  /** Four sheets (one of which is of no items, one nothing), links of all sorts, something chosen, an image. */
  private void begin() throws Exception {
    x = new PolicyRoutes();
    y = new Model();
    batch = 0;
    call("domains", n);
    for (int d = 1; d < n; d++) {
      call("link", d, 0, 1 + d % 3);
      if (d > 1) call("link", d, d - 1, 1 + (d + 1) % 3);
      call("like", d, d / 2, d + 3);
      if (d % 2 == 0) call("manner", d, d / 2 - 1);
    }
    call("cut", n - 1, 0);
    if (n > 3) call("bar", n - 2, 2);
    call("turn");
    call("sheet", 0, 0, 6);
    for (int i = 0; i < 6; i++) call("item", 0, 0, i, i % 2 == 0 ? 0 : 9);
    call("sheet", 1, 2, 0);
    call("sheet", 2, 0, 24);
    call("image");
    call("choose", n - 1);
  }

  private void sweep(String name, long[]... edges) throws Exception {
    long[] numbers = new long[edges.length];
    int total = 1;
    for (long[] row : edges) total *= row.length;
    for (int k = 0; k < total; k++) {
      int rest = k;
      for (int p = 0; p < edges.length; p++) {
        numbers[p] = edges[p][rest % edges[p].length];
        rest /= edges[p].length;
      }
      if (batch >= BATCH) begin();
      batch++;
      call(name, numbers);
    }
    settle();
  }

  /** What the calls have left is asked once. */
  private void settle() throws Exception {
    for (int what = 0; what < 8; what++) call("count", what);
    for (int d = 0; d < 6; d++) for (int what : new int[] {0, 1, 3, 4}) call("own", d, what);
    for (int a = 0; a < 6; a++) for (int b = 0; b < 6; b++) for (int what = 0; what < 3; what++) call("told", a, b, what);
    for (int sheet = 0; sheet < 3; sheet++) for (int i = 0; i < 6; i++) call("tried", sheet, 0, i);
    batch = BATCH;
  }

  private static long[] to(int most) {
    List<Long> all = new ArrayList<>(List.of((long) LOW, -2L, -1L));
    for (long v = 0; v <= most + 1; v++) all.add(v);
    all.add((long) HIGH);
    return all.stream().mapToLong(Long::longValue).toArray();
  }

  private void domains() throws Exception {
    long[] d = to(n);
    sweep("link", d, d, to(3));
    sweep("cut", d, d);
    sweep("like", d, d, new long[] {LOW, -1, 0, 1, 9, 10, HIGH});
    sweep("manner", d, to(3));
    sweep("bar", d, to((1 << n) + 3));
    sweep("domains", to(7));
    sweep("told", d, d, to(2));
    sweep("own", d, to(4));
    sweep("way", d, to(9));
    sweep("count", to(7));
    sweep("type", to(130));
  }

  private void choices() throws Exception {
    long[] d = to(n);
    sweep("choose", d);
    sweep("foreseen", to(2));
    sweep("stable", to(3), d);
    sweep("ring", to(3));
    sweep("fail", d, to(10), to(1));
    sweep("seen", d);
    sweep("drift", to(40));
    sweep("seed", to(3));
  }

  private void sheets() throws Exception {
    sweep("tried", SHEET, LANE, ITEM);
    sweep("film", SHEET, LANE, ITEM);
    sweep("sheet", SHEET, LANE, LENGTH);
    sweep("drop", SHEET);
    sweep("item", SHEET, LANE, ITEM, new long[] {0, 9, 256, -1, Long.MIN_VALUE});
    if (n == 3) sweep("copy", SHEET, FIRST, SHEET, FIRST, LENGTH);
  }

  /** All rows of figures 0 .. n that end with 0, up to six of them; and some others. */
  private void rows() throws Exception {
    int figures = n + 1, total = 1;
    for (int k = 0; k < 5; k++) total *= figures;
    for (int k = 0; k < total; k++) {
      long row = 0;
      for (int rest = k; rest > 0; rest /= figures) row = row * 10 + rest % figures;
      if (batch >= BATCH * 5) begin();
      batch++;
      call("why", row * 10);
    }
    batch = BATCH;
    sweep("why", new long[] {LOW, -10, -1, 1, 2, 9, 11, 99, 101, 999999, 1000000, 1000010, 5432100, 6543210, HIGH});
  }

  public static void main(String[] args) throws Exception {
    for (int n = 2; n <= 6; n++) {
      SweepTest test = new SweepTest(n);
      test.domains();
      test.choices();
      test.sheets();
      test.rows();
    }
    end();
  }
}
