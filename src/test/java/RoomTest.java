import java.lang.management.ManagementFactory;
import java.lang.reflect.Array;
import java.lang.reflect.Field;
import java.lang.reflect.Modifier;
import java.util.Collections;
import java.util.IdentityHashMap;
import java.util.Set;

/** A new object is small, and no call makes anything: a run of nothing but new objects keeps to the room. */
public final class RoomTest {
  private static final int CALLS = 512;
  private static final int OBJECTS = 600000;
  private static final int ELEMENTS = 7300000;
  private static final Set<Object> met = Collections.newSetFromMap(new IdentityHashMap<>());
  private static long elements = 0;
  private static long answers = 0;

  private static void count(Object o) throws Exception {
    if (o == null || !met.add(o)) return;
    if (o.getClass().isArray()) {
      elements += Array.getLength(o);
      return;
    }
    for (Field f : o.getClass().getDeclaredFields()) {
      if (Modifier.isStatic(f.getModifiers())) continue;
      elements++;
      f.setAccessible(true);
      if (!f.getType().isPrimitive()) count(f.get(o));
    }
  }

  private static long made() {
    com.sun.management.ThreadMXBean bean = (com.sun.management.ThreadMXBean) ManagementFactory.getThreadMXBean();
    return bean.getThreadAllocatedBytes(Thread.currentThread().getId());
  }

  /** Every call, where all six domains are linked and nothing is by sort. */
  private static void dearest(PolicyRoutes x) {
    answers += x.domains(6) + x.domains(5) + x.domains(6);
    for (int a = 0; a < 6; a++) {
      answers += x.manner(a, 0) + x.bar(a, 0);
      for (int b = 0; b < a; b++) answers += x.link(a, b, 2) + x.like(a, b, a + b & 7) + x.cut(a, b) + x.cut(a, b);
    }
    for (int k = 0; k < 4; k++) {
      answers += x.foreseen(k) + x.ring(k) + x.told(0, 1, k) + x.sheet(k, 3, 24) + x.item(k, 3, k, 9);
      answers += x.tried(k, 3, 0) + x.film(k, 3, 0) + x.copy(k, 0, 0, 5, 5) + x.like(1, 2, k);
    }
    for (int d = 0; d < 6; d++) {
      for (int what = 0; what < 5; what++) answers += x.own(d, what);
      answers += x.fail(d, 3, 0) + x.fail(d, 3, 1) + x.seen(d) + x.stable(d, d) + x.way(d, d) + x.choose(d);
    }
    for (int what = 0; what < 8; what++) answers += x.count(what);
    for (char c : new char[] {'0', '-', '1', ','}) answers += x.type(c);
    answers += x.read() + x.turn() + x.rest() + x.clear() + x.why(543210) + x.image() + x.drift(40) + x.undo() + x.seed(7);
    answers += x.restore() + x.drop(0);
  }

  public static void main(String[] args) throws Exception {
    boolean wrong = false;
    PolicyRoutes x = new PolicyRoutes();
    count(x);
    System.out.println("a new object: " + met.size() + " objects and arrays, " + elements + " fields and elements");
    if (met.size() * (long) CALLS > OBJECTS || elements * CALLS > ELEMENTS) {
      System.out.println("that is too much for " + CALLS + " of them");
      wrong = true;
    }
    dearest(x);
    PolicyRoutes y = new PolicyRoutes();
    made();
    long start = made();
    long asking = made() - start;
    long ahead = made();
    dearest(y);
    long bytes = made() - ahead - asking;
    // The test's own row of four letters is some 24; one object in some of the calls would be more than this.
    if (bytes > 200) {
      System.out.println("calls made " + bytes + " bytes of objects");
      wrong = true;
    }
    System.out.println("every call once: " + bytes + " bytes made (answers " + answers + ")");
    if (wrong) System.exit(1);
  }
}
