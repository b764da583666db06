import java.math.BigInteger;
import java.util.ArrayList;
import java.util.List;

/** UNDONE and DRIFT (chapter 3) and promises 24 to 28: a test for each sentence that names a boundary case. */
public final class DoneEdgesTest extends Twins {
  private static final BigInteger BITS = BigInteger.ONE.shiftLeft(31);
  private static final BigInteger TIMES = BigInteger.valueOf(1103515245), MORE = BigInteger.valueOf(12345);

  /** What the draw becomes. */
  private static int drawn(int draw) { return BigInteger.valueOf(draw).multiply(TIMES).add(MORE).mod(BITS).intValueExact(); }

  /** The draw that becomes that one. */
  private static int ahead(int draw) {
    return BigInteger.valueOf(draw).subtract(MORE).multiply(TIMES.modInverse(BITS)).mod(BITS).intValueExact();
  }

  /** One turn of a drift whose x is y times 8 and a kind. */
  private static int turnOf(PolicyRoutes x, int kind, int y) {
    x.seed(ahead((y * 8 + kind) * 65536 + (y * 31 + kind) % 65536));
    return x.drift(1);
  }

  /** Of four domains: y by which it is of a and b, with v. */
  private static int y(int a, int b, int v) { return v * 64 + b * 8 + a; }

  private static void drift() {
    run("24 1 .. 40", "drift(0) BAD; drift(41) BAD; drift(-1) BAD; drift(LOW) BAD; drift(HIGH) BAD; count(7) 0; seed(1) 1;"
        + "drift(1) 1; count(7) 1; drift(40); count(7) 6");
    for (int turns : new int[] {1, 2, 5, 6, 7, 39, 40}) {
      PolicyRoutes x = new PolicyRoutes();
      x.seed(987654321);
      x.drift(turns);
      List<Integer> draws = new ArrayList<>(List.of(987654321));
      for (int k = 0; k < turns; k++) draws.add(drawn(draws.get(k)));
      due("24 each turn draws once, of " + turns, x.seed(draws.get(turns)), draws.get(turns));
      int known = Math.min(6, turns);
      due("24 each may be UNDONE, of " + turns, x.count(7), known);
      for (int k = 1; k <= known; k++) {
        due("24 UNDONE, " + k + " of " + turns, x.undo(), known - k);
        due("24 THE DRAW, too, " + k + " of " + turns, x.seed(draws.get(turns - k)), draws.get(turns - k));
      }
      due("24 no more of " + turns, x.undo(), NONE);
    }
    PolicyRoutes x = lax(6), y = lax(6);
    x.drift(7);
    for (int k = 0; k < 7; k++) y.drift(1);
    dues("24 seven turns or one seven times", chosen(x), chosen(y));
    due("24 DOMAINS then that have CHOSEN a WAY", x.drift(40), x.count(3));
  }

  private static void draw() {
    run("24 the lowest 31 bits", "seed(0) 1; drift(1) 1; seed(1) 12345; drift(1) 1; seed(2) 1103527590; drift(1) 1; seed(HIGH) 59559187;"
        + "drift(1) 1; seed(5) 1043980748");
    for (int draw : new int[] {0, 1, 65535, 65536, 1 << 30, HIGH - 65535, HIGH}) {
      PolicyRoutes x = new PolicyRoutes();
      x.seed(ahead(draw));
      x.drift(1);
      due("24 from " + ahead(draw), x.seed(0), draw);
    }
    // The least and the greatest draw whose x is 15, of kind 7, y 1: 1 chooses anew.
    for (int low : new int[] {0, 1, 65535}) {
      PolicyRoutes x = with(4, "0<1,0<2");
      x.seed(ahead(15 * 65536 + low));
      dues("24 x is it by 65536 (cut), " + low, of(x.drift(1), x.own(1, 3), x.own(2, 3)), 3, 10, NONE);
    }
  }

  /** A turn of a drift does what the call does, and nothing else. */
  private static void turnIs(String call, int kind, int y) {
    PolicyRoutes x = with(4, "0<1,1>2,0-2!,2>3"), as = with(4, "0<1,1>2,0-2!,2>3");
    for (PolicyRoutes each : new PolicyRoutes[] {x, as}) {
      each.turn();
      each.bar(2, 8);
    }
    turnOf(x, kind, y);
    answer(as, call);
    List<Long> one = new ArrayList<>(), other = new ArrayList<>();
    view(x, one);
    view(as, other);
    for (int k = 0; k < one.size(); k++) due("24 " + kind + ", " + y + " as " + call + ", answer " + k, one.get(k), other.get(k));
    due("24 " + kind + " may be UNDONE", x.undo(), 3);
  }

  private static void driftIs() {
    turnIs("link(1,3,1)", 0, y(1, 3, 1));
    turnIs("link(2,0,0)", 0, y(2, 0, 4));
    turnIs("link(0,2,2)", 0, y(0, 2, 6));
    turnIs("cut(0,1)", 1, y(0, 1, 3));
    turnIs("cut(2,0)", 1, y(2, 0, 3));
    turnIs("cut(1,3)", 1, y(1, 3, 3));
    turnIs("like(1,3,3)", 2, y(1, 3, 63));
    turnIs("like(3,1,7)", 2, y(3, 1, 7));
    turnIs("manner(1,1)", 3, y(1, 3, 1));
    turnIs("manner(2,0)", 3, y(2, 2, 0));
    turnIs("manner(0,3)", 3, y(0, 3, 3));
    turnIs("bar(1,8)", 4, y(1, 3, 1));
    turnIs("bar(2,0)", 4, y(2, 3, 1));
    turnIs("bar(2,9)", 4, y(2, 0, 1));
    turnIs("turn()", 5, y(2, 3, 1));
    turnIs("turn()", 6, y(3, 2, 2));
    turnIs("turn()", 5, y(3, 3, 9));
    turnIs("choose(2)", 7, y(2, 3, 1));
    turnIs("choose(3)", 7, y(3, 2, 2));
    turnIs("choose(1)", 7, y(1, 0, 3));
    turnIs("choose(0)", 7, y(0, 3, 3));
  }

  private static void driftLinks() {
    for (int v : new int[] {0, 1, 2, 3, 4, 5, 7, 60, 61, 62, 63}) {
      PolicyRoutes x = with(4, "2-3!");
      turnOf(x, 0, y(2, 3, v));
      dues("24 0: of SORT v left over by 4 (b to a; not CUT), v " + v, of(x.told(2, 3, 0), x.told(3, 2, 0), x.told(2, 3, 1), x.count(1)),
          v % 4, (4 - v % 4) % 4, 0, v % 4 == 0 ? 0 : 1);
      PolicyRoutes z = new PolicyRoutes();
      turnOf(z, 0, y(0, 1, v));
      dues("24 0: there was none, v " + v, of(z.told(0, 1, 0), z.told(1, 0, 0), z.count(1)), v % 4, (4 - v % 4) % 4, v % 4 == 0 ? 0 : 1);
    }
    PolicyRoutes x = with(4, "0>1,1-2!");
    turnOf(x, 1, y(0, 1, 5));
    dues("24 1: is CUT", of(x.told(0, 1, 1), x.told(1, 0, 1), x.told(0, 1, 0), x.count(2)), 1, 1, 1, 2);
    turnOf(x, 1, y(1, 0, 9));
    dues("24 1: or mended", of(x.told(0, 1, 1), x.count(2)), 0, 1);
    turnOf(x, 1, y(2, 1, 0));
    dues("24 1: mended, of b and a", of(x.told(1, 2, 1), x.count(2)), 0, 0);
    turnOf(x, 1, y(2, 3, 1));
    dues("24 1: if there is one", of(x.told(2, 3, 0), x.told(2, 3, 1), x.count(1), x.count(2), x.link(2, 3, 1), x.told(2, 3, 1)),
        0, 0, 2, 0, 0, 0);
  }

  private static void driftTold() {
    for (int v : new int[] {0, 1, 9, 10, 11, 19, 20, 59, 60, 63}) {
      PolicyRoutes x = new PolicyRoutes();
      x.like(1, 3, 5);
      turnOf(x, 2, y(1, 3, v));
      dues("24 2: a LIKES b v left over by 10, v " + v, of(x.told(1, 3, 2), x.told(3, 1, 2)), v % 10, 0);
      turnOf(x, 3, y(1, 3, v));
      dues("24 3: a is of MANNER v left over by 4, v " + v, of(x.own(1, 0), x.own(3, 0), x.own(0, 0)), v % 4, 3, 3);
      turnOf(x, 3, y(2, 2, v));
      due("24 3: b may be a, v " + v, x.own(2, 0), v % 4);
    }
    PolicyRoutes x = new PolicyRoutes();
    x.bar(1, 4);
    turnOf(x, 4, y(1, 3, 2));
    due("24 4: a BARS b", x.own(1, 1), 12);
    turnOf(x, 4, y(1, 2, 2));
    due("24 4: or does not any more", x.own(1, 1), 8);
    turnOf(x, 4, y(1, 3, 0));
    dues("24 4: none is left", of(x.own(1, 1), x.own(3, 1), x.own(2, 1)), 0, 0, 0);
    for (int kind : new int[] {0, 1, 2, 4})
      for (int a = 0; a < 4; a++) {
        PolicyRoutes same = with(4, "0>1,1-2!,2<3"), as = with(4, "0>1,1-2!,2<3");
        turnOf(same, kind, y(a, a, 41));
        List<Long> one = new ArrayList<>(), other = new ArrayList<>();
        view(same, one);
        view(as, other);
        due("24 Of " + kind + " nothing, if b is a, " + a, one.equals(other) ? 1 : 0, 1);
        dues("24 but it may be UNDONE, " + kind, of(same.count(7), same.undo(), same.count(1)), 2, 1, 3);
      }
  }

  private static void driftChoices() {
    for (int kind : new int[] {5, 6}) {
      PolicyRoutes x = with(4, "0<1,1>2,0<3");
      dues("24 " + kind + ": a TURN", of(turnOf(x, kind, y(2, 1, 3)), x.own(1, 3), x.own(2, 3), x.own(3, 3)), 11, 10, NONE, 30);
      dues("24 " + kind + ": one TURN more", of(turnOf(x, kind, y(0, 0, 0)), x.own(2, 3)), 15, 210);
      dues("24 " + kind + ": at REST", of(turnOf(x, kind, 4095), x.count(4), x.count(7)), 15, 0, 4);
    }
    PolicyRoutes x = with(4, "0<1,1>2,0<3");
    dues("24 7: a CHOOSES anew", of(turnOf(x, 7, y(3, 1, 0)), x.own(1, 3), x.own(3, 3)), 9, NONE, 30);
    dues("24 7: it is CONTENT", of(turnOf(x, 7, y(2, 1, 0)), x.own(2, 3)), 9, NONE);
    dues("24 7: b may be a", of(turnOf(x, 7, y(1, 1, 0)), x.own(1, 3)), 11, 10);
    dues("24 7: 0 has 0 alone", of(turnOf(x, 7, y(0, 1, 0)), x.own(0, 3), x.count(7)), 11, 0, 5);
    x.cut(0, 3);
    dues("24 7: none", of(turnOf(x, 7, y(3, 3, 63)), x.own(3, 3)), 3, NONE);
  }

  /** "a is y left over by n, b (y by 8, cut) left over by n": for each n, and the greatest y. */
  private static void driftOfEachSize() {
    for (int n = 2; n <= 6; n++)
      for (int big : new int[] {0, 7, 8, 63, 64, 1000, 2047, 3333, 4094, 4095}) {
        PolicyRoutes x = sized(n);
        int a = big % n, b = big / 8 % n, v = big / 64;
        turnOf(x, 2, big);
        for (int c = 0; c < n; c++)
          for (int d = 0; d < n; d++)
            if (c != d) due("24 of " + n + " by " + big + ": " + c + d, x.told(c, d, 2), c == a && d == b ? v % 10 : 0);
        turnOf(x, 3, big);
        for (int c = 0; c < n; c++) due("24 MANNER of " + n + " by " + big + ": " + c, x.own(c, 0), c == a ? v % 4 : 3);
      }
  }

  /** "UNDONE: the latest of .. is as it had not been". */
  private static void undone() {
    for (String call : new String[] {"link(0,1,1)", "link(1,0,0)", "link(1,0,2)", "link(1,2,2)", "link(2,1,0)", "cut(0,1)", "cut(2,1)",
      "like(0,1,9)", "like(1,2,0)", "manner(1,0)", "manner(0,2)", "bar(1,5)", "bar(2,0)", "domains(2)", "domains(6)", "clear()",
      "turn()", "choose(2)", "rest()", "drift(1)"}) {
      PolicyRoutes x = scene();
      due("25 " + call + " is done", answer(x, call) >= 0 ? 1 : 0, 1);
      dues("25 " + call + ", how many more", of(x.count(7), x.undo(), x.count(7)), 6, 5, 5);
      alike("25 " + call + " is as it had not been", x, scene());
    }
    for (String text : new String[] {"", "0-1", "0<1,1-2!,0-2"}) {
      PolicyRoutes x = with(3, "0<1,1-2!,0-2"), as = with(3, "0<1,1-2!,0-2");
      read(x, text);
      dues("25 TEXT '" + text + "'", of(x.count(7), x.undo()), 3, 2);
      alike("25 TEXT '" + text + "' is as it had not been", x, as);
    }
  }

  private static void notToBeUndone() {
    for (String call : new String[] {"image()", "seed(5)", "type(48)", "sheet(0,0,5)", "drop(0)", "item(0,0,0,1)", "film(0,0,0)",
      "copy(0,0,0,1,1)", "tried(0,0,0)", "choose(0)", "choose(1)", "why(10)", "seen(1)", "foreseen(1)", "told(0,1,0)"}) {
      PolicyRoutes x = scene();
      due("25 " + call + " is done", answer(x, call) >= 0 ? 1 : 0, 1);
      dues("25 " + call + " is not to be UNDONE", of(x.count(7), x.undo(), x.own(1, 3)), 5, 4, NONE);
    }
    on(scene(), "25 nor is a TURN at REST", "rest() 1; count(7) 6; rest() 0; turn() 0; choose(2) 0; count(7) 6; undo() 5; own(2,3) NONE;"
        + "own(1,3) 10; undo() 4; own(1,3) NONE; undo() 3; own(2,1) 0");
    on(scene(), "25 nor what is restored", "image() 1; like(0,1,2) 0; restore() 1; count(7) 5; restore() 1; undo() 4");
    on(scene(), "25 nor what is UNDONE", "like(0,1,2) 0; undo() 5; undo() 4; told(0,1,2) 0; own(1,3) NONE");
  }

  private static void sixAreKnown() {
    for (int done = 0; done <= 14; done++) {
      PolicyRoutes x = new PolicyRoutes();
      for (int k = 1; k <= done; k++) due("25 told", x.like(0, 1, k % 10), (k - 1) % 10);
      int known = Math.min(6, done);
      due("25 6 are known, of " + done, x.count(7), known);
      for (int k = 1; k <= known; k++) dues("25 UNDONE " + k + " of " + done, of(x.undo(), x.told(0, 1, 2)), known - k, (done - k) % 10);
      dues("25 older ones lost, of " + done, of(x.undo(), x.told(0, 1, 2), x.count(7)), NONE, (done - known) % 10, 0);
    }
    // More told behind some UNDONE: these are forgotten, and six are known again.
    run("25 anew behind what was UNDONE", "like(0,1,1); like(0,1,2); like(0,1,3); like(0,1,4); undo() 3; undo() 2; told(0,1,2) 2;"
        + "like(0,1,5) 2; like(0,1,6) 5; like(0,1,7) 6; like(0,1,8) 7; like(0,1,9) 8; count(7) 6; undo() 5; told(0,1,2) 8; undo() 4;"
        + "undo() 3; undo() 2; undo() 1; told(0,1,2) 2; undo() 0; told(0,1,2) 1; undo() NONE; told(0,1,2) 1");
    run("25 NONE: none is known", "undo() NONE; like(0,1,1) 0; undo() 0; undo() NONE; undo() NONE; count(7) 0");
    run("25 whatever was told since", "like(0,1,1) 0; seed(50) 1; undo() 0; seed(7) 1; undo() NONE; seed(7) 7");
    run("25 not SHEETS, not THE TAPE", "like(0,1,1) 0; sheet(0,0,4) 4; type(48) 1; undo() 0; drop(0) 4; type(62) 2");
    run("25 not IMAGES", "like(0,1,1) 0; image() 1; undo() 0; told(0,1,2) 0; restore() 1; told(0,1,2) 1; undo() 0; told(0,1,2) 0");
  }

  private static void seed() {
    run("26 0 is not below 0", "seed(0) 1; seed(1) 0");
    run("26 BAD: below 0", "seed(-1) BAD; seed(LOW) BAD; seed(-12345) BAD; seed(4) 1");
    run("26 a number of 31 bits", "seed(HIGH) 1; seed(HIGH) HIGH; seed(1073741824) HIGH; seed(0) 1073741824");
    run("26 it may be what it is", "seed(1) 1; seed(1) 1; count(7) 0");
  }

  private static void images() {
    PolicyRoutes x = scene(), as = scene();
    as.image();
    due("27 kept as an IMAGE", x.image(), 1);
    for (String call : new String[] {"domains(6)", "link(5,0,1)", "like(1,2,9)", "manner(1,0)", "bar(0,6)", "rest()", "drift(30)",
      "undo()", "undo()", "clear()", "seed(3)", "domains(2)"}) answer(x, call);
    due("28 all is as it was then", x.restore(), 1);
    alike("28 restore", x, as);
    PolicyRoutes y = new PolicyRoutes();
    on(y, "28 NONE: there is none", "restore() NONE; like(0,1,1) 0; restore() NONE; told(0,1,2) 1; image() 1; restore() 1");
    on(y, "28 as often as it is asked", "like(0,1,2) 1; restore() 1; told(0,1,2) 1; like(0,1,3) 1; restore() 1; told(0,1,2) 1; restore() 1");
    on(y, "27 a later one in its place", "like(0,1,4) 1; image() 1; like(0,1,5) 4; restore() 1; told(0,1,2) 4; undo() 1; told(0,1,2) 1;"
        + "restore() 1; told(0,1,2) 4; image() 1; restore() 1; told(0,1,2) 4");
    run("27 what may be UNDONE, too", "like(0,1,1); like(0,1,2); image() 1; like(0,1,3); like(0,1,4); restore() 1; count(7) 2; undo() 1;"
        + "told(0,1,2) 1; undo() 0; told(0,1,2) 0; undo() NONE; restore() 1; count(7) 2; told(0,1,2) 2");
    run("27 nothing may be UNDONE, too", "image() 1; like(0,1,3) 0; restore() 1; count(7) 0; undo() NONE; told(0,1,2) 0");
    run("27 six may be UNDONE", "like(0,1,1); like(0,1,2); like(0,1,3); like(0,1,4); like(0,1,5); like(0,1,6); like(0,1,7); image() 1;"
        + "drift(40); restore() 1; count(7) 6; undo() 5; told(0,1,2) 6; undo() 4; undo() 3; undo() 2; undo() 1; undo() 0; told(0,1,2) 1");
    run("27 but SHEETS, THE TAPE", "type(48) 1; sheet(0,0,3) 3; image() 1; type(62) 2; sheet(0,0,5) 5; sheet(1,0,1) 1; restore() 1;"
        + "type(49) 3; drop(0) 5; drop(1) 1; restore() 1; drop(0) NULL; read() 1");
    run("27 THE DRAW, too", "seed(44) 1; image() 1; drift(3); restore() 1; seed(1) 44");
    on(with(3, "0<1,1>2"), "27 what is CHOSEN, too", "turn() 1; image() 1; turn() 1; own(2,3) 210; restore() 1; own(2,3) NONE; own(1,3) 10;"
        + "way(2,0) 210; cut(0,1) 1; way(2,0) NONE; restore() 1; way(2,0) 210; count(6) 1; stable(0,2) 210");
  }

  public static void main(String[] args) {
    drift();
    draw();
    driftIs();
    driftLinks();
    driftTold();
    driftChoices();
    driftOfEachSize();
    undone();
    notToBeUndone();
    sixAreKnown();
    seed();
    images();
    end();
  }
}
