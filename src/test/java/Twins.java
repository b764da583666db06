import java.util.ArrayList;
import java.util.List;

/** Objects of the same state, held against one another by all that can be asked. */
abstract class Twins extends Checks {
  /** Three domains, each thing told, five things to be undone, three sheets, a tape that tells half a link. */
  static PolicyRoutes scene() {
    PolicyRoutes x = with(3, "0<1,1-2!,0-2");
    x.like(1, 2, 4);
    x.bar(2, 2);
    x.choose(1);
    x.seed(12345);
    fill(x, 0, 0, 0, 9, 1);
    fill(x, 1, 3, 2, 0, 7, 1, 0);
    x.sheet(2, 2, 0);
    x.type('0');
    x.type('>');
    return x;
  }

  /** One thing more is told behind the image, so that it tells something else; six are to be undone. */
  static PolicyRoutes sceneWithImage() {
    PolicyRoutes x = scene();
    x.image();
    x.manner(2, 1);
    return x;
  }

  static PolicyRoutes untouched() { return new PolicyRoutes(); }

  /** What is told of the domains. */
  static void view(PolicyRoutes x, List<Long> all) {
    int n = x.count(0);
    all.add((long) n);
    for (int a = 0; a < n; a++) {
      for (int what : new int[] {0, 1, 3}) all.add((long) x.own(a, what));
      for (int b = 0; b < n; b++)
        for (int what = 0; what < 3 && a != b; what++) all.add((long) x.told(a, b, what));
    }
  }

  /** Brings back one thing behind the other, and views all each time. */
  static void viewPast(PolicyRoutes x, List<Long> all) {
    for (int k = 0; k < 7; k++) {
      long left = x.undo();
      all.add(left);
      if (left < 0) return;
      view(x, all);
    }
  }

  /** All that can be asked; the object is used up by it (at most some 420 calls, if there are three domains). */
  static List<Long> probe(PolicyRoutes x) {
    List<Long> all = new ArrayList<>();
    view(x, all);
    for (int what = 0; what < 8; what++) all.add((long) x.count(what));
    for (int sheet = 0; sheet < 4; sheet++)
      for (int lane = 0; lane < 4; lane++)
        for (int i = 0; i < 4; i++) all.add((long) x.tried(sheet, lane, i));
    all.add((long) x.seed(4242));
    viewPast(x, all);
    all.add((long) x.restore());
    view(x, all);
    all.add((long) x.type('1'));
    all.add((long) x.read());
    view(x, all);
    for (int sheet = 0; sheet < 4; sheet++) all.add((long) x.drop(sheet));
    return all;
  }

  static void alike(String what, PolicyRoutes x, PolicyRoutes y) {
    List<Long> one = probe(x), other = probe(y);
    due(what + ", how many answers then", one.size(), other.size());
    for (int k = 0; k < Math.min(one.size(), other.size()); k++) due(what + ", answer " + k + " then", one.get(k), other.get(k));
  }
}
