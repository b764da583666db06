import java.lang.reflect.Method;
import java.util.ArrayList;
import java.util.HashMap;
import java.util.List;
import java.util.Map;
import java.util.Random;

/** Runs of calls drawn by fixed seeds, each call answered by the program and by the model alike. */
public final class ModelTest {
  private static final String[] NAMES = {"link", "cut", "like", "manner", "bar", "domains", "told", "own", "way", "why",
    "count", "type", "read", "turn", "choose", "rest", "clear", "foreseen", "stable", "ring", "fail", "seen", "drift",
    "undo", "seed", "image", "restore", "tried", "film", "sheet", "drop", "item", "copy"};
  /** How often each is called, by the same order. */
  private static final int[] WEIGHTS = {14, 6, 10, 8, 6, 1, 4, 8, 8, 8,
    6, 0, 2, 10, 8, 3, 1, 5, 5, 5, 3, 4, 4,
    5, 1, 1, 1, 6, 3, 2, 1, 8, 3};

  private static final List<String> NAMESET = List.of(NAMES);

  private final Map<String, Method> program = new HashMap<>();
  private final Map<String, Method> model = new HashMap<>();
  private final List<String> done = new ArrayList<>();
  private PolicyRoutes x;
  private Model y;
  private Random random;
  private int n;
  private int calls;
  private int wrong = 0;

  private ModelTest() {
    for (Method m : PolicyRoutes.class.getDeclaredMethods()) program.put(m.getName(), m);
    for (Method m : Model.class.getDeclaredMethods()) if (NAMESET.contains(m.getName())) model.put(m.getName(), m);
  }

  private long call(String name, Object... args) throws Exception {
    Method m = program.get(name);
    long got = ((Number) m.invoke(x, args)).longValue();
    long want = ((Number) model.get(name).invoke(y, args)).longValue();
    calls++;
    done.add(name + java.util.Arrays.toString(args) + " " + got);
    if (got != want) {
      wrong++;
      if (wrong <= 5) {
        System.out.println(name + java.util.Arrays.toString(args) + " answered " + got + ", due is " + want + " behind");
        System.out.println("  " + String.join(", ", done));
      }
    }
    return want;
  }

  private int below(int bound) { return random.nextInt(bound); }

  private int odd(int ordinary) {
    if (below(40) != 0) return ordinary;
    int[] edges = {-1, Integer.MIN_VALUE, Integer.MAX_VALUE, n, 6, 7, 9, 10, 11, 24, 25, 63, 64, -2};
    return edges[below(edges.length)];
  }

  private int domain() { return odd(below(n)); }

  private int number() {
    int length = below(6), way = 0;
    for (int k = 0; k < length; k++) way = way * 10 + below(n);
    return below(50) == 0 ? way * 10 + below(10) : below(50) == 0 ? -way : way * 10;
  }

  private void write() throws Exception {
    StringBuilder text = new StringBuilder();
    List<String> pairs = new ArrayList<>();
    for (int a = 0; a < n; a++) for (int b = 0; b < a; b++) pairs.add(below(2) == 0 ? "" + a + b : "" + b + a);
    java.util.Collections.shuffle(pairs, random);
    int links = below(pairs.size() + 1);
    for (int k = 0; k < links; k++) {
      if (k > 0) text.append(',');
      text.append(pairs.get(k).charAt(0)).append(">-<".charAt(below(3))).append(pairs.get(k).charAt(1));
      if (below(5) == 0) text.append('!');
    }
    for (int k = below(3); k > 0; k--) text.insert(below(text.length() + 1), ' ');
    if (below(3) == 0) text.insert(below(text.length() + 1), "0123456789><-!,a ".charAt(below(17)));
    if (below(6) == 0 && text.length() > 0) text.deleteCharAt(below(text.length()));
    if (below(6) == 0) text.setLength(below(text.length() + 1));
    for (char c : text.toString().toCharArray()) call("type", (int) c);
    call("read");
  }

  private void step() throws Exception {
    int pick = 0, sum = 0;
    for (int w : WEIGHTS) sum += w;
    for (int r = below(sum); r >= WEIGHTS[pick]; pick++) r -= WEIGHTS[pick];
    String name = NAMES[pick];
    switch (name) {
      case "link": call(name, domain(), domain(), odd(below(4))); break;
      case "cut": call(name, domain(), domain()); break;
      case "like": call(name, domain(), domain(), odd(below(10))); break;
      case "manner": call(name, domain(), odd(below(4))); break;
      case "bar": call(name, domain(), odd(below(1 << n) & below(1 << n))); break;
      case "domains": call(name, odd(2 + below(5))); n = (int) call("count", 0); break;
      case "told": call(name, domain(), domain(), odd(below(3))); break;
      case "own": call(name, domain(), odd(below(5))); break;
      case "way": call(name, domain(), odd(below(below(3) == 0 ? 70 : 6))); break;
      case "why": call(name, number()); break;
      case "count": call(name, odd(below(8))); break;
      case "read": write(); break;
      case "choose": case "seen": call(name, domain()); break;
      case "foreseen": call(name, odd(below(3))); break;
      case "stable": call(name, odd(below(3)), domain()); break;
      case "ring": call(name, odd(below(4))); break;
      case "fail": fail(); break;
      case "drift": call(name, odd(1 + below(below(4) == 0 ? 40 : 4))); break;
      case "seed": call(name, odd(below(Integer.MAX_VALUE))); break;
      case "sheet": call(name, odd(below(4)), odd(below(2) * 3), odd(below(25))); break;
      case "drop": call(name, odd(below(4))); break;
      case "item": call(name, odd(below(4)), odd(below(2) * 3), odd(below(10)), item()); break;
      case "tried": case "film": call(name, odd(below(4)), odd(below(2) * 3), odd(below(8))); break;
      case "copy": call(name, odd(below(4)), odd(below(8)), odd(below(4)), odd(below(8)), odd(below(6))); break;
      default: call(name); break;
    }
    if (name.equals("undo") || name.equals("restore")) n = (int) call("count", 0);
  }

  private void fail() throws Exception {
    // The model tries all sets of links that fail; of many links that would take long.
    if (n == 6 && below(10) != 0) return;
    int d = domain(), c = odd(below(11));
    call("fail", d, c, 0);
    call("fail", d, c, odd(1));
  }

  private long item() {
    if (below(15) == 0) return random.nextLong();
    return below(20) == 0 ? 256L * below(5) + below(n) : below(4) == 0 ? 9L : below(n);
  }

  private void run(long seed) throws Exception {
    random = new Random(seed);
    x = new PolicyRoutes();
    y = new Model();
    n = 4;
    calls = 0;
    done.clear();
    if (below(2) == 0) {
      call("domains", new int[] {2, 3, 5, 5, 6}[below(5)]);
      n = (int) call("count", 0);
    }
    // Many links and lax manners first, else hardly any way is permitted.
    int dense = below(4), lax = below(3);
    for (int a = 0; a < n; a++) {
      if (lax > 0 && below(lax) == 0) call("manner", a, below(3));
      for (int b = 0; b < a; b++) if (below(4) < dense) call("link", a, b, 1 + below(3));
      if (below(2) == 0) call("like", a, below(n), below(10));
    }
    for (int k = 0; k < 4; k++) {
      call("sheet", k, k < 3 ? 0 : 3, 8 + below(17));
      for (int i = 0; i < 6; i++) call("item", k, k < 3 ? 0 : 3, i, item());
    }
    while (calls < 380) step();
    for (int d = 0; d < n; d++) for (int what = 0; what < 5; what++) call("own", d, what);
    for (int what = 0; what < 8; what++) call("count", what);
  }

  /** All or nearly all linked, lax manners, many likings: there disputes are, and choices that don't rest. */
  private void runWild(long seed) throws Exception {
    random = new Random(seed);
    x = new PolicyRoutes();
    y = new Model();
    calls = 0;
    done.clear();
    n = 3 + below(4);
    call("domains", n);
    for (int a = 0; a < n; a++) {
      call("manner", a, below(5) == 0 ? below(4) : 0);
      for (int b = 0; b < a; b++) if (below(6) != 0) call("link", a, b, 1 + below(3));
      for (int b = 1; b < n; b++) call("like", a, b, below(10));
    }
    int rounds = n == 6 ? 3 : 8;
    for (int k = 0; k < rounds; k++) {
      unsettle();
      for (int what = 0; what < 4; what++) call("ring", what);
      for (int what = 0; what < 3; what++) call("foreseen", what);
      int stable = (int) call("count", 6);
      for (int j = 0; j <= stable && j < 4; j++) call("stable", j, below(n));
      call("count", 5);
      for (int d = 0; d < n; d++) call("way", d, below(12));
      call("seen", below(n));
      fail();
    }
  }

  private void unsettle() throws Exception {
    call("like", below(n), below(n), below(10));
    switch (below(6)) {
      case 0: call("cut", below(n), below(n)); break;
      case 1: call("bar", below(n), 1 << below(n)); break;
      case 2: call("manner", below(n), below(4)); break;
      case 3: call("undo"); n = (int) call("count", 0); break;
      case 4: call("rest"); break;
      default: call("turn"); break;
    }
    call("choose", below(n));
    for (int d = 1; d < n; d++) call("own", d, 3 + below(2));
  }

  public static void main(String[] args) throws Exception {
    ModelTest test = new ModelTest();
    int runs = args.length > 0 ? Integer.parseInt(args[0]) : 600;
    long from = args.length > 1 ? Long.parseLong(args[1]) : 1;
    for (int k = 0; k < runs && test.wrong == 0; k++) {
      test.run(from + k);
      test.runWild(from + k);
    }
    System.out.println(2 * runs + " runs against the model, " + test.wrong + " answers not as due");
    if (test.wrong != 0) System.exit(1);
  }
}
