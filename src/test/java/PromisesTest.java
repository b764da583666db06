import java.util.ArrayList;
import java.util.Arrays;
import java.util.List;

/** For each promise: ordinary inputs, the edges that the document names, wrong inputs. */
public final class PromisesTest extends Checks {
  private static void p01New() {
    PolicyRoutes x = new PolicyRoutes();
    dues("1 counts", of(x.count(0), x.count(1), x.count(2), x.count(3), x.count(4), x.count(5), x.count(6), x.count(7)),
        4, 0, 0, 1, 0, 1, 1, 0);
    for (int a = 0; a < 4; a++) {
      due("1 manner", x.own(a, 0), 3);
      due("1 bars", x.own(a, 1), 0);
      due("1 chosen", x.own(a, 3), a == 0 ? 0 : NONE);
      for (int b = 0; b < 4; b++)
        for (int what = 0; what < 3; what++) due("1 told", x.told(a, b, what), a == b ? BAD : 0);
    }
    due("1 draw", x.seed(5), 1);
    due("1 image", x.restore(), NONE);
    due("1 tape", x.type('0'), 1);
    for (int s = 0; s < 4; s++) due("1 sheet", x.drop(s), NULL);
  }

  private static void p02Link() {
    PolicyRoutes x = new PolicyRoutes();
    due("2 none before", x.link(0, 1, 1), 0);
    dues("2 both sides", of(x.told(0, 1, 0), x.told(1, 0, 0)), 1, 3);
    due("2 had, from the other side", x.link(1, 0, 2), 3);
    dues("2 peers", of(x.told(0, 1, 0), x.told(1, 0, 0)), 2, 2);
    due("2 it is so", x.link(0, 1, 2), NOT);
    x.cut(0, 1);
    due("2 mended by link", x.link(0, 1, 2), 2);
    due("2 not cut then", x.told(0, 1, 1), 0);
    x.cut(0, 1);
    due("2 taken away", x.link(0, 1, 0), 2);
    dues("2 nothing left", of(x.count(1), x.count(2), x.told(0, 1, 0), x.told(0, 1, 1)), 0, 0, 0, 0);
    due("2 none and none", x.link(0, 1, 0), NOT);
    dues("2 bad", of(x.link(1, 1, 1), x.link(-1, 0, 1), x.link(0, 4, 1), x.link(LOW, 0, 1), x.link(0, HIGH, 1),
        x.link(0, 1, -1), x.link(0, 1, 4), x.link(1, 1, 0)), BAD, BAD, BAD, BAD, BAD, BAD, BAD, BAD);
  }

  private static void p03Cut() {
    PolicyRoutes x = with(4, "1>2");
    dues("3 cut, mended", of(x.cut(2, 1), x.told(1, 2, 1), x.count(2), x.cut(1, 2), x.told(2, 1, 1)), 1, 1, 1, 0, 0);
    due("3 sort stays", x.told(1, 2, 0), 1);
    dues("3 refused", of(x.cut(0, 1), x.cut(2, 2), x.cut(4, 1), x.cut(1, -1), x.cut(LOW, HIGH)), NONE, BAD, BAD, BAD, BAD);
  }

  private static void p04Like() {
    PolicyRoutes x = new PolicyRoutes();
    dues("4 like", of(x.like(1, 2, 9), x.told(1, 2, 2), x.told(2, 1, 2), x.like(1, 2, 9), x.like(1, 2, 0)), 0, 9, 0, NOT, 9);
    dues("4 refused", of(x.like(1, 1, 0), x.like(1, 2, 10), x.like(1, 2, -1), x.like(4, 2, 1), x.like(1, 4, 1)),
        BAD, BAD, BAD, BAD, BAD);
  }

  private static void p05Manner() {
    PolicyRoutes x = new PolicyRoutes();
    dues("5 manner", of(x.manner(0, 0), x.manner(0, 2), x.manner(0, 2), x.own(0, 0), x.own(1, 0)), 3, 0, NOT, 2, 3);
    dues("5 refused", of(x.manner(4, 1), x.manner(-1, 1), x.manner(1, 4), x.manner(1, -1)), BAD, BAD, BAD, BAD);
    PolicyRoutes y = with(3, "0-1,0>2,1>2");
    // 2 has the providers 0 and 1; 1 has the peer 0 and the customer 2.
    dues("5 picks customers", of(y.way(1, 0), y.way(1, 1)), 10, NONE);
    y.manner(2, 1);
    dues("5 sends by none", of(y.way(1, 0), y.way(1, 1)), 120, 10);
    y.manner(1, 2);
    dues("5 picks by none", of(y.way(1, 0), y.way(1, 1)), 10, 120);
  }

  private static void p06Bar() {
    PolicyRoutes x = with(4, "0-1,1>2");
    due("6 way ahead", x.way(2, 0), 210);
    dues("6 bar", of(x.bar(2, 2), x.own(2, 1), x.way(2, 0), x.bar(2, 2), x.bar(2, 11), x.bar(2, 0)), 0, 2, NONE, NOT, 2, 11);
    dues("6 refused", of(x.bar(2, 4), x.bar(2, 16), x.bar(2, -1), x.bar(4, 0), x.bar(-1, 0), x.bar(2, LOW)),
        BAD, BAD, BAD, BAD, BAD, BAD);
    PolicyRoutes y = with(3, "0-1,1>2");
    y.bar(2, 1);
    due("6 who bars 0 has no way", y.own(2, 2), 0);
    due("6 set of one domain beyond", y.bar(1, 8), BAD);
  }

  private static void p07Domains() {
    PolicyRoutes x = new PolicyRoutes();
    dues("7 domains", of(x.domains(6), x.count(0), x.domains(6), x.domains(7), x.domains(1), x.domains(LOW)),
        4, 6, NOT, BAD, BAD, BAD);
    x.link(5, 0, 1);
    x.link(1, 0, 2);
    x.cut(5, 0);
    x.like(5, 0, 3);
    x.like(0, 5, 3);
    x.like(1, 0, 4);
    x.manner(5, 0);
    x.manner(1, 1);
    x.bar(1, 32 | 4);
    x.bar(5, 2);
    x.turn();
    dues("7 chosen ahead", chosen(x), 0, 10, NONE, NONE, NONE, NONE);
    due("7 fewer", x.domains(5), 6);
    dues("7 chosen then", chosen(x), 0, NONE, NONE, NONE, NONE);
    dues("7 no more", of(x.told(5, 0, 0), x.own(5, 0), x.count(1), x.own(1, 1)), BAD, BAD, 1, 4);
    due("7 as many again", x.domains(6), 5);
    dues("7 as at first", of(x.told(5, 0, 0), x.told(5, 0, 1), x.told(5, 0, 2), x.told(0, 5, 2), x.own(5, 0), x.own(5, 1),
        x.own(1, 1), x.count(2)), 0, 0, 0, 0, 3, 0, 4, 0);
    dues("7 all else stays", of(x.told(1, 0, 0), x.told(1, 0, 2), x.own(1, 0)), 2, 4, 1);
  }

  private static void p08Told() {
    PolicyRoutes x = with(4, "3<1!");
    x.like(3, 1, 7);
    dues("8 told", of(x.told(3, 1, 0), x.told(1, 3, 0), x.told(3, 1, 1), x.told(1, 3, 1), x.told(3, 1, 2), x.told(1, 3, 2),
        x.told(0, 1, 1)), 3, 1, 1, 1, 7, 0, 0);
    dues("8 refused", of(x.told(3, 3, 0), x.told(4, 1, 0), x.told(1, 4, 0), x.told(1, 0, -1), x.told(1, 0, 3)),
        BAD, BAD, BAD, BAD, BAD);
  }

  private static void p09Own() {
    PolicyRoutes x = disagree();
    x.bar(0, 6);
    dues("9 own", of(x.own(0, 0), x.own(0, 1), x.own(1, 2), x.own(0, 2), x.own(1, 3), x.own(1, 4), x.own(0, 3), x.own(0, 4)),
        0, 6, 2, 1, NONE, 10, 0, 0);
    x.turn();
    dues("9 chosen, would", of(x.own(1, 3), x.own(1, 4)), 10, 120);
    x.cut(0, 1);
    x.cut(1, 2);
    dues("9 would choose none", of(x.own(1, 3), x.own(1, 4), x.own(2, 4)), 10, NONE, 20);
    dues("9 refused", of(x.own(3, 0), x.own(-1, 0), x.own(0, 5), x.own(0, -1), x.own(HIGH, 3)), BAD, BAD, BAD, BAD, BAD);
  }

  private static void p10Way() {
    PolicyRoutes x = lax(4);
    dues("10 shorter, then less", of(x.way(1, 0), x.way(1, 1), x.way(1, 2), x.way(1, 3), x.way(1, 4), x.way(1, 5)),
        10, 120, 130, 1230, 1320, NONE);
    x.like(1, 3, 1);
    dues("10 by liking", of(x.way(1, 0), x.way(1, 1), x.way(1, 2), x.way(1, 3), x.way(1, 4)), 130, 1320, 10, 120, 1230);
    x.link(1, 2, 1);
    x.link(1, 0, 3);
    x.manner(1, 1);
    dues("10 by sort", of(x.way(1, 0), x.way(1, 1), x.way(1, 2), x.way(1, 3), x.way(1, 4)), 120, 1230, 130, 1320, 10);
    x.like(1, 0, 9);
    due("10 sort ahead of liking", x.way(1, 4), 10);
    dues("10 of 0", of(x.way(0, 0), x.way(0, 1)), 0, NONE);
    dues("10 refused", of(x.way(4, 0), x.way(-1, 0), x.way(0, -1), x.way(0, LOW), x.way(0, HIGH)), BAD, BAD, BAD, BAD, NONE);
    dues("10 most", of(lax(6).own(5, 2), lax(6).way(5, 64), lax(6).way(5, 65), lax(6).count(5)), 65, 543210, NONE, 326);
    PolicyRoutes y = with(4, "0-1,1-2,2>3");
    dues("10 peers don't send on to peers", of(y.way(2, 0), y.way(3, 0)), NONE, NONE);
    PolicyRoutes z = with(4, "0<1,1-2,2>3");
    dues("10 but what customers have", of(z.way(2, 0), z.way(3, 0)), 210, 3210);
  }

  private static void p11Why() {
    PolicyRoutes x = with(4, "0<1,0<2,1-2,1>3,2>3");
    dues("11 why", of(x.why(0), x.why(310), x.why(3120), x.why(30), x.why(1310), x.why(1320)), 0, 0, 0, 130, 210, 410);
    dues("11 figures ahead", of(x.why(1230), x.why(13210), x.why(110), x.why(100), x.why(100000), x.why(212310)),
        132, 210, 110, 101, 104, 422);
    x.bar(3, 4);
    dues("11 bars", of(x.why(3120), x.why(320), x.why(310)), 330, 330, 0);
    x.cut(1, 0);
    dues("11 cut", of(x.why(10), x.why(310), x.why(120)), 110, 111, 0);
    dues("11 link ahead of the rest", of(x.why(1010), x.why(3230)), 112, 132);
    dues("11 refused", of(x.why(-10), x.why(1), x.why(40), x.why(1000000), x.why(LOW), x.why(HIGH), x.why(410), x.why(3)),
        BAD, BAD, BAD, BAD, BAD, BAD, BAD, BAD);
    PolicyRoutes y = with(3, "0-1,1-2");
    due("11 not let go", y.why(210), 420);
    y.manner(1, 1);
    due("11 let go", y.why(210), 0);
    due("11 of three domains", y.why(30), BAD);
  }

  private static void p12Count() {
    PolicyRoutes x = with(4, "0-1,0-2!,1>3");
    dues("12 counts", of(x.count(0), x.count(1), x.count(2), x.count(3), x.count(4), x.count(5), x.count(6), x.count(7)),
        4, 3, 1, 1, 2, 3, 1, 1);
    x.turn();
    dues("12 behind a turn", of(x.count(3), x.count(4), x.count(7)), 3, 8, 2);
    dues("12 refused", of(x.count(-1), x.count(8), x.count(LOW), x.count(HIGH)), BAD, BAD, BAD, BAD);
    dues("12 stable", of(disagree().count(6), restless().count(6)), 2, 0);
  }

  private static void p13Type() {
    PolicyRoutes x = new PolicyRoutes();
    dues("13 letters", of(x.type(31), x.type(127), x.type(-1), x.type(LOW), x.type(32), x.type(126)), BAD, BAD, BAD, BAD, 1, 2);
    for (int k = 3; k <= 80; k++) due("13 more", x.type(32), k);
    dues("13 full", of(x.type(32), x.type(31), x.read(), x.type(48)), FULL, BAD, -21, 1);
    x.image();
    x.link(0, 1, 1);
    x.undo();
    x.restore();
    due("13 neither undone nor restored", x.type(48), 2);
  }

  private static void p14Read() {
    PolicyRoutes x = new PolicyRoutes();
    x.link(2, 3, 1);
    due("14 links", read(x, "0>1,2-1!, 3 < 2"), 3);
    dues("14 told", of(x.told(0, 1, 0), x.told(1, 2, 0), x.told(1, 2, 1), x.told(3, 2, 0), x.told(0, 1, 1)), 1, 2, 1, 3, 0);
    String[] faulty = {",", "!", "0", "0>", "0>1,", "0>1!!", "01", "0>>", "0>0", "0>4", "4>0", "0>1,1-0", "0>1 2", "0>1,,",
      "0>1!,", "  x", "0 > 1 , ", "0>1!1", "0=1", "a", "0>1,0<1", " 0  > 0"};
    int[] places = {0, 0, 1, 2, 4, 4, 1, 2, 2, 2, 0, 6, 4, 4, 5, 2, 8, 4, 1, 0, 6, 6};
    for (int k = 0; k < faulty.length; k++) due("14 fault of '" + faulty[k] + "'", read(x, faulty[k]), -20 - places[k]);
    dues("14 all else stays", of(x.count(1), x.count(2), x.count(7)), 3, 1, 2);
    due("14 empty then", x.read(), 0);
    dues("14 none told", of(x.count(1), x.count(7)), 0, 3);
    x.domains(6);
    due("14 most", read(x, "0>1!,0>2!,0>3!,0>4!,0>5!,1-2!,1-3!,1-4!,1-5!,2<3!,2<4!,2<5!,3>4!,3>5!,4>5!"), 15);
    dues("14 all cut", of(x.count(1), x.count(2)), 15, 15);
    x.domains(2);
    due("14 of two domains", read(x, "0>2"), -22);
    PolicyRoutes y = with(4, "0-1");
    y.turn();
    read(y, "0-2");
    dues("14 chosen stays", chosen(y), 0, 10, NONE, NONE);
  }

  private static void p15Turn() {
    PolicyRoutes x = disagree();
    due("15 first", x.turn(), 2);
    dues("15 then", chosen(x), 0, 10, 20);
    due("15 all at once", x.turn(), 2);
    dues("15 both change", chosen(x), 0, 120, 210);
    due("15 back", x.turn(), 2);
    dues("15 as ahead", chosen(x), 0, 10, 20);
    PolicyRoutes y = new PolicyRoutes();
    dues("15 nothing, nothing to undo", of(y.turn(), y.count(7)), 0, 0);
    PolicyRoutes z = with(3, "0<1,1>2");
    dues("15 one step at a turn", of(z.turn(), z.turn(), z.turn()), 1, 1, 0);
    z.cut(0, 1);
    dues("15 lost step by step", of(z.turn(), z.own(1, 3), z.own(2, 3), z.turn(), z.own(2, 3), z.turn()), 1, NONE, 210, 1, NONE, 0);
  }

  private static void p16Choose() {
    PolicyRoutes x = disagree();
    int known = x.count(7);
    due("16 known", known, 6);
    dues("16 choose", of(x.choose(1), x.choose(2), x.choose(1), x.choose(2), x.choose(0)), 1, 1, 0, 0, 0);
    dues("16 chosen", chosen(x), 0, 10, 210);
    dues("16 refused", of(x.choose(3), x.choose(-1), x.choose(HIGH)), BAD, BAD, BAD);
    PolicyRoutes y = with(3, "0<1");
    dues("16 undone only if not content", of(y.count(7), y.choose(2), y.count(7), y.choose(1), y.count(7), y.choose(1),
        y.count(7)), 2, 0, 2, 1, 3, 0, 3);
  }

  private static void p17Rest() {
    PolicyRoutes x = with(6, "0<1,1>2,2>3,3>4,4>5");
    dues("17 rest", of(x.rest(), x.rest(), x.own(5, 3), x.count(7)), 5, 0, 543210, 3);
    PolicyRoutes y = restless();
    dues("17 none", of(y.rest(), y.count(4) == 0 ? 1 : 0), NONE, 0);
    PolicyRoutes z = disagree();
    due("17 forty turns", z.rest(), NONE);
    dues("17 an even number of them", chosen(z), 0, 120, 210);
    PolicyRoutes s = slow();
    turns(s, 10);
    dues("17 41 would be needed", of(s.foreseen(0), s.rest(), s.foreseen(0), s.rest(), s.rest()), 41, NONE, 1, 1, 0);
    s = slow();
    turns(s, 11);
    dues("17 40 are enough", of(s.foreseen(0), s.rest(), s.rest()), 40, 40, 0);
    z.undo();
    dues("17 undone at once", chosen(z), 0, NONE, NONE);
  }

  private static void p18Clear() {
    PolicyRoutes x = disagree();
    x.turn();
    dues("18 clear", of(x.clear(), x.count(3), x.clear(), x.undo() >= 0 ? 1 : 0, x.count(3)), 2, 1, NOT, 1, 7);
  }

  private static void p19Foreseen() {
    PolicyRoutes x = disagree();
    dues("19 goes round", of(x.foreseen(0), x.foreseen(1), x.foreseen(2)), NONE, 2, 1);
    x.turn();
    dues("19 in the round", of(x.foreseen(0), x.foreseen(1), x.foreseen(2)), NONE, 2, 0);
    dues("19 nothing changed", chosen(x), 0, 10, 20);
    x.choose(1);
    dues("19 at rest", of(x.foreseen(0), x.foreseen(1), x.foreseen(2)), 0, 1, 0);
    PolicyRoutes y = with(6, "0<1,1>2,2>3,3>4,4>5");
    dues("19 rest behind five", of(y.foreseen(0), y.foreseen(1), y.foreseen(2)), 5, 1, 5);
    sixtyTurns();
    dues("19 refused", of(y.foreseen(-1), y.foreseen(3), y.foreseen(LOW)), BAD, BAD, BAD);
  }

  private static void sixtyTurns() {
    PolicyRoutes y = slowest();
    turns(y, 5);
    dues("19 more than 60 for ever", of(y.foreseen(0), y.foreseen(1), y.foreseen(2)), NONE, NONE, NONE);
    List<String> seen = new ArrayList<>();
    while (seen.size() < 100 && !seen.contains(slowerBehind(seen.size()))) seen.add(slowerBehind(seen.size()));
    int j = seen.size(), i = seen.indexOf(slowerBehind(j));
    due("19 the round begins late", j > 60 && i > j - 60 ? 1 : 0, 1);
    PolicyRoutes x = slower();
    for (int k = 0; k <= i; k++) {
      boolean comes = j - k <= 60;
      dues("19 behind " + k + " turns", of(x.foreseen(1), x.foreseen(2)), comes ? j - i : NONE, comes ? i - k : NONE);
      due("19 rest behind " + k, x.foreseen(0), comes && j - i == 1 ? i - k : NONE);
      x.turn();
    }
  }

  /** What is chosen behind so many turns; each time of a new object, since one is good for 512 calls alone. */
  private static String slowerBehind(int turns) {
    PolicyRoutes x = slower();
    turns(x, turns);
    return Arrays.toString(chosen(x));
  }

  private static void p20Stable() {
    PolicyRoutes x = disagree();
    dues("20 the first", of(x.stable(0, 0), x.stable(0, 1), x.stable(0, 2)), 0, 10, 210);
    dues("20 the second", of(x.stable(1, 0), x.stable(1, 1), x.stable(1, 2)), 0, 120, 20);
    dues("20 not so many", of(x.stable(2, 0), x.stable(HIGH, 1)), NOT, NOT);
    dues("20 refused", of(x.stable(-1, 0), x.stable(0, 3), x.stable(0, -1), x.stable(9, 3)), BAD, BAD, BAD, BAD);
    PolicyRoutes y = with(4, "0-1,2-3");
    dues("20 none for some", of(y.count(6), y.stable(0, 1), y.stable(0, 2), y.stable(0, 3)), 1, 10, NONE, NONE);
    due("20 none at all", restless().stable(0, 0), NOT);
    y.like(1, 0, 1);
    y.cut(0, 1);
    dues("20 anew behind a change", of(y.count(6), y.stable(0, 1)), 1, NONE);
  }

  private static void p21Ring() {
    PolicyRoutes x = disagree();
    dues("21 of two", of(x.ring(0), x.ring(1), x.ring(2), x.ring(3)), 1, 2, 2, 120);
    PolicyRoutes y = restless();
    dues("21 of three", of(y.ring(0), y.ring(1), y.ring(2), y.ring(3)), 1, 3, 3, 120);
    x.like(2, 1, 0);
    dues("21 none any more", of(x.ring(0), x.ring(1), x.ring(2), x.ring(3)), 0, NONE, 0, NONE);
    dues("21 refused", of(x.ring(-1), x.ring(4), x.ring(HIGH)), BAD, BAD, BAD);
  }

  private static void p22Fail() {
    PolicyRoutes x = with(3, "0<1,0<2,1-2");
    dues("22 odds", of(x.fail(1, 1, 0), x.fail(1, 1, 1), x.fail(1, 5, 0), x.fail(1, 5, 1)), 981, 1000, 5, 8);
    dues("22 never, always", of(x.fail(1, 0, 0), x.fail(1, 0, 1), x.fail(1, 10, 0), x.fail(1, 10, 1)), 1, 1, 0, 1);
    dues("22 of 0", of(x.fail(0, 10, 0), x.fail(0, 10, 1), x.fail(0, 3, 0), x.fail(0, 3, 1)), 1, 1, 1, 1);
    x.cut(0, 1);
    dues("22 cut", of(x.fail(1, 2, 0), x.fail(1, 2, 1), x.fail(2, 2, 0), x.fail(2, 2, 1)), 16, 25, 4, 5);
    x.bar(1, 4);
    dues("22 no way", of(x.fail(1, 2, 0), x.fail(1, 2, 1)), 0, 1);
    PolicyRoutes y = lax(6);
    dues("22 of fifteen links", of(y.fail(1, 3, 0), y.fail(1, 3, 1)), 124341590307599L, 125000000000000L);
    dues("22 refused", of(y.fail(6, 1, 0), y.fail(-1, 1, 0), y.fail(1, 11, 0), y.fail(1, -1, 0), y.fail(1, 1, 2),
        y.fail(1, 1, -1)), BAD, BAD, BAD, BAD, BAD, BAD);
  }

  private static void p23Seen() {
    PolicyRoutes x = disagree();
    dues("23 no rest yet", of(x.seen(1), x.seen(0)), 0, 0);
    x.choose(2);
    x.choose(1);
    // 2 has 20 and 1 has 120: only if 2 sends to a peer is 1 content.
    dues("23 seen", of(x.seen(0), x.seen(1), x.seen(2)), 15, 15, 3);
    dues("23 nothing changed", of(x.own(2, 0), x.count(4)), 0, 0);
    x.link(1, 2, 3);
    x.manner(1, 0);
    dues("23 by picking", of(x.seen(1), x.seen(2)), 5, 15);
    dues("23 refused", of(x.seen(3), x.seen(-1)), BAD, BAD);
  }

  private static void p24Drift() {
    PolicyRoutes x = new PolicyRoutes();
    // 1 becomes 1103527590: x 16838 (6 by 8), a turn; then x 5758, 6 again; then 10113: 1 by 8, y 1264, a 0, b 2: no link.
    dues("24 drift", of(x.drift(3), x.count(7), x.count(1)), 1, 3, 0);
    due("24 the draw", x.seed(1), 662824084);
    dues("24 refused", of(x.drift(0), x.drift(41), x.drift(-1), x.drift(LOW)), BAD, BAD, BAD, BAD);
    dues("24 forty, six known", of(x.drift(40) > 0 ? 1 : 0, x.count(7)), 1, 6);
    int[] kinds = new int[8];
    for (int v = 0; v < 400; v++) driftOnce(v * 5368709 & HIGH, kinds);
    for (int k = 0; k < 8; k++) due("24 each kind " + k, kinds[k] > 20 ? 1 : 0, 1);
  }

  /** One turn of a drift from a known state, by the document's numbers. */
  private static void driftOnce(int seed, int[] kinds) {
    PolicyRoutes x = with(5, "0-1,1>2,2<3!,3-4,0>4,1-3");
    x.like(2, 3, 6);
    x.bar(3, 1);
    x.choose(1);
    x.seed(seed);
    long draw = (seed * 1103515245L + 12345L) % (1L << 31);
    int big = (int) (draw >> 16), y = big >> 3, a = y % 5, b = (y >> 3) % 5, v = y >> 6, kind = big % 8;
    kinds[kind]++;
    int sort = a == b ? 0 : x.told(a, b, 0), cut = a == b ? 0 : x.told(a, b, 1), bars = x.own(a, 1), would = x.own(a, 4);
    String what = "24 kind " + kind + " of " + seed;
    due(what + ", undone", x.drift(1) > 0 ? x.count(7) : 0, 6);
    if (kind == 0 && a != b) dues(what, of(x.told(a, b, 0), x.told(a, b, 1)), v % 4, 0);
    if (kind == 1 && a != b) due(what, x.told(a, b, 1), sort == 0 ? 0 : 1 - cut);
    if (kind == 2 && a != b) due(what, x.told(a, b, 2), v % 10);
    if (kind == 3) due(what, x.own(a, 0), v % 4);
    if (kind == 4) due(what, x.own(a, 1), a == b ? bars : bars ^ 1 << b);
    if (kind == 5 || kind == 6) dues(what, chosen(x), 0, 10, 210, NONE, 40);
    if (kind == 7) due(what, x.own(a, 3), would);
    due(what + ", links", x.count(1), kind == 0 && a != b ? 6 - (sort > 0 ? 1 : 0) + (v % 4 > 0 ? 1 : 0) : 6);
    due(what + ", the draw", x.seed(0), draw);
    x.undo();
    due(what + ", the draw undone", x.seed(0), seed);
  }

  private static void p25Undo() {
    PolicyRoutes x = new PolicyRoutes();
    due("25 none", x.undo(), NONE);
    x.link(0, 1, 1);
    x.cut(0, 1);
    x.like(0, 1, 4);
    x.manner(0, 1);
    x.bar(0, 2);
    x.domains(3);
    dues("25 back, one by one", of(x.undo(), x.count(0), x.own(0, 1)), 5, 4, 2);
    dues("25 bar", of(x.undo(), x.own(0, 1), x.own(0, 0)), 4, 0, 1);
    dues("25 manner", of(x.undo(), x.own(0, 0), x.told(0, 1, 2)), 3, 3, 4);
    dues("25 like", of(x.undo(), x.told(0, 1, 2), x.told(0, 1, 1)), 2, 0, 1);
    dues("25 cut", of(x.undo(), x.told(0, 1, 1), x.told(0, 1, 0)), 1, 0, 1);
    dues("25 link", of(x.undo(), x.told(0, 1, 0), x.undo()), 0, 0, NONE);
    for (int v = 1; v <= 9; v++) x.like(2, 1, v);
    for (int k = 5; k >= 0; k--) due("25 six are known", x.undo(), k);
    dues("25 older ones lost", of(x.undo(), x.told(2, 1, 2)), NONE, 3);
    x.like(2, 1, 5);
    x.seed(1234);
    dues("25 whatever was told since", of(x.undo(), x.seed(7)), 0, 1);
    x.like(2, 1, 3);
    x.link(9, 9, 9);
    due("25 refused ones don't count", x.count(7), 0);
    read(x, "0-1");
    x.image();
    x.choose(1);
    x.turn();
    x.rest();
    dues("25 only what changes", of(x.count(7), x.undo(), x.own(1, 3), x.undo()), 2, 1, NONE, 0);
    dues("25 images stay", of(x.restore(), x.count(7), x.count(1)), 1, 1, 1);
  }

  private static void p26Seed() {
    PolicyRoutes x = new PolicyRoutes();
    dues("26 seed", of(x.seed(0), x.seed(HIGH), x.seed(HIGH), x.seed(-1), x.seed(LOW), x.seed(5)), 1, 0, HIGH, BAD, BAD, HIGH);
    due("26 not undone alone", x.undo(), NONE);
  }

  private static void p27Image() {
    PolicyRoutes x = with(3, "0-1,0-2!");
    x.like(1, 2, 3);
    x.seed(99);
    x.turn();
    x.sheet(0, 2, 3);
    dues("27 image", of(x.image(), x.count(7)), 1, 4);
    x.domains(6);
    x.drift(9);
    x.seed(3);
    x.drop(0);
    x.type(48);
    dues("28 restore", of(x.restore(), x.count(0), x.count(1), x.count(2), x.told(1, 2, 2), x.own(1, 3), x.count(7)),
        1, 3, 2, 1, 3, 10, 4);
    dues("28 the draw, not the sheets, not the tape", of(x.seed(99), x.drop(0), x.type(48)), 99, NULL, 2);
    dues("28 what may be undone is as then", of(x.undo(), x.own(1, 3), x.undo(), x.told(1, 2, 2), x.undo(), x.count(1),
        x.undo(), x.count(0), x.undo()), 3, NONE, 2, 0, 1, 0, 0, 4, NONE);
    dues("28 again", of(x.restore(), x.count(7), x.own(1, 3)), 1, 4, 10);
    x.like(1, 2, 4);
    x.image();
    x.like(1, 2, 5);
    dues("27 a later image", of(x.restore(), x.told(1, 2, 2)), 1, 4);
  }

  private static void p28Restore() {
    PolicyRoutes x = new PolicyRoutes();
    dues("28 none", of(x.restore(), x.image(), x.restore(), x.restore()), NONE, 1, 1, 1);
  }

  private static void p29Tried() {
    PolicyRoutes x = disagree();
    long[][] rows = {{2, 0}, {0, 1}, {0, 0}, {9, 9}, {2, 1}, {1, 0}, {9, 1}, {2, 9}, {0, 2}};
    int[] sets = {0, 0, 6, 6, 6, 2, 6, 6, 4};
    for (int k = 0; k < rows.length; k++) {
      fill(x, 1, k % 4, rows[k]);
      due("29 tried " + k, x.tried(1, k % 4, 0), sets[k]);
    }
    dues("29 nothing chosen by it", chosen(x), 0, NONE, NONE);
    fill(x, 1, 3, 7, 2, 0, 3, 4294967296L);
    dues("29 from an item on", of(x.tried(1, 3, 1), x.tried(1, 3, 0), x.tried(1, 3, 3), x.tried(1, 3, 4), x.tried(1, 3, -1),
        x.tried(1, 3, LOW), x.tried(1, 3, HIGH)), 0, NOT, NOT, INDEX, INDEX, INDEX, INDEX);
    fill(x, 2, 3, 4294967296L, 0);
    due("29 a long that is no domain", x.tried(2, 3, 0), NOT);
    dues("29 refused", of(x.tried(-1, 0, 0), x.tried(4, 0, 0), x.tried(1, 4, 0), x.tried(0, -1, 0), x.tried(0, 0, -1),
        x.tried(1, 0, -1)), BAD, BAD, BAD, BAD, NULL, CAST);
  }

  private static void p30Film() {
    PolicyRoutes x = disagree();
    x.choose(1);
    fill(x, 0, 1, 5, 5, 5);
    // 1 has chosen 10, 2 none: of rows that begin with 0 only 0, 9 leaves 2 alone not content.
    dues("30 film", of(x.film(0, 1, 1), x.tried(0, 1, 0), x.tried(0, 1, 1)), 2, NOT, 4);
    x.choose(2);
    dues("30 10 and 210", of(x.film(0, 1, 0), x.tried(0, 1, 0), x.item(0, 1, 1, 0), x.tried(0, 1, 0)), 2, 0, 1, 6);
    x.clear();
    x.choose(2);
    x.choose(1);
    dues("30 120 and 20", of(x.film(0, 1, 0), x.tried(0, 1, 0), x.item(0, 1, 1, 1), x.tried(0, 1, 0)), 2, 0, 1, 6);
    dues("30 refused", of(x.film(4, 1, 0), x.film(-1, 1, 0), x.film(0, 4, 0), x.film(0, -1, 0), x.film(1, 1, 0), x.film(1, 1, -1),
        x.film(0, 0, 9), x.film(0, 1, 2), x.film(0, 1, -1), x.film(0, 1, HIGH)),
        BAD, BAD, BAD, BAD, NULL, NULL, CAST, INDEX, INDEX, INDEX);
    due("30 refused changes nothing", x.tried(0, 1, 0), 6);
    x.domains(6);
    x.sheet(2, 0, 5);
    dues("30 five items", of(x.film(2, 0, 0), x.film(2, 0, 1), x.tried(2, 0, 0) == x.count(4) ? 1 : 0), 5, INDEX, 1);
  }

  private static void p31Sheet() {
    PolicyRoutes x = new PolicyRoutes();
    dues("31 sheet", of(x.sheet(0, 0, 24), x.sheet(3, 3, 0), x.drop(3), x.drop(0)), 24, 0, 0, 24);
    dues("31 refused", of(x.sheet(0, 0, 25), x.sheet(4, 0, 1), x.sheet(-1, 0, 1), x.sheet(0, 4, 1), x.sheet(0, -1, 1),
        x.sheet(0, 0, -1), x.sheet(0, 0, LOW), x.sheet(4, 0, -1), x.sheet(0, 0, HIGH)),
        BAD, BAD, BAD, BAD, BAD, SIZE, SIZE, BAD, BAD);
    due("31 refused changes nothing", x.drop(0), NULL);
    fill(x, 0, 0, 5, 5, 5);
    dues("31 a new row is of noughts", of(x.tried(0, 0, 0), x.sheet(0, 0, 3), x.tried(0, 0, 0)), NOT, 3, 14);
    dues("31 of another lane", of(x.sheet(0, 2, 3), x.tried(0, 0, 0), x.tried(0, 2, 0)), 3, CAST, 14);
    dues("31 refused keeps the old row", of(x.item(0, 2, 0, 7), x.sheet(0, 2, -1), x.tried(0, 2, 0)), 1, SIZE, NOT);
  }

  private static void p32Drop() {
    PolicyRoutes x = new PolicyRoutes();
    x.sheet(2, 1, 7);
    dues("32 drop", of(x.drop(2), x.drop(2), x.item(2, 1, 0, 0), x.drop(4), x.drop(-1)), 7, NULL, NULL, BAD, BAD);
  }

  /** Whether item 0 of a sheet, of two domains that are linked, is 0 (0), is 1 or 9 (2), or neither (NOT). */
  private static int itemIs(int lane, long v) {
    PolicyRoutes x = with(2, "0-1");
    x.sheet(0, lane, 1);
    x.item(0, lane, 0, v);
    return x.tried(0, lane, 0);
  }

  private static void p33Item() {
    dues("33 bytes", of(itemIs(0, 256), itemIs(0, 265), itemIs(0, -247), itemIs(0, 255), itemIs(0, 128), itemIs(0, 1L << 40)),
        0, 2, 2, NOT, NOT, 0);
    dues("33 shorts", of(itemIs(1, 256), itemIs(1, 65536), itemIs(1, 65545), itemIs(1, 65535)), NOT, 0, 2, NOT);
    dues("33 ints", of(itemIs(2, 65536), itemIs(2, 1L << 32), itemIs(2, (1L << 32) + 9), itemIs(2, -1)), NOT, 0, 2, NOT);
    dues("33 longs", of(itemIs(3, 1L << 32), itemIs(3, 9), itemIs(3, Long.MIN_VALUE), itemIs(3, 0)), NOT, 2, NOT, 0);
    PolicyRoutes x = new PolicyRoutes();
    x.sheet(0, 0, 2);
    dues("33 refused", of(x.item(0, 0, 2, 0), x.item(0, 0, -1, 0), x.item(0, 1, 5, 0), x.item(1, 1, 5, 0), x.item(1, 4, 5, 0),
        x.item(4, 0, 0, 0), x.item(0, 0, HIGH, 0), x.item(0, 0, 1, 0)), INDEX, INDEX, CAST, NULL, BAD, BAD, INDEX, 1);
  }

  private static void p34Copy() {
    PolicyRoutes x = disagree();
    fill(x, 0, 2, 7, 2, 0, 9, 1);
    fill(x, 1, 2, 9, 9);
    dues("34 to another", of(x.copy(0, 1, 1, 0, 2), x.tried(1, 2, 0)), 2, 0);
    dues("34 upon itself, backward", of(x.copy(0, 1, 0, 0, 4), x.tried(0, 2, 0), x.tried(0, 2, 2)), 4, 0, 6);
    fill(x, 0, 2, 2, 0, 7, 7);
    dues("34 upon itself, forward", of(x.copy(0, 0, 0, 1, 3), x.tried(0, 2, 1), x.tried(0, 2, 2)), 3, 0, NOT);
    dues("34 nothing", of(x.copy(0, 4, 1, 2, 0), x.copy(0, 0, 0, 0, 0), x.copy(0, 5, 1, 0, 0), x.copy(0, 0, 1, 3, 0),
        x.copy(0, -1, 1, 0, 0), x.copy(0, 0, 1, -1, 0)), 0, 0, INDEX, INDEX, INDEX, INDEX);
    dues("34 out of it", of(x.copy(0, 0, 1, 0, 3), x.copy(1, 0, 0, 3, 2), x.copy(0, 0, 1, 0, -1), x.copy(0, 3, 0, 0, 2),
        x.copy(0, 1, 0, 0, HIGH), x.copy(0, HIGH, 0, 0, HIGH), x.copy(0, LOW, 0, 0, 1)),
        INDEX, INDEX, INDEX, INDEX, INDEX, INDEX, INDEX);
    x.sheet(2, 3, 4);
    dues("34 refused", of(x.copy(4, 0, 0, 0, 1), x.copy(0, 0, -1, 0, 1), x.copy(3, 0, 0, 0, 1), x.copy(0, 0, 3, 0, 1),
        x.copy(3, 0, 3, 0, -1), x.copy(0, 0, 2, 0, -1), x.copy(3, 0, 4, 0, 0)), BAD, BAD, NULL, NULL, NULL, CAST, BAD);
    due("34 refused changes nothing", x.tried(0, 2, 1), 0);
  }

  private static void constants() {
    dues("constants", of(PolicyRoutes.BAD, PolicyRoutes.NOT, PolicyRoutes.FULL, PolicyRoutes.NONE, PolicyRoutes.NULL,
        PolicyRoutes.CAST, PolicyRoutes.INDEX, PolicyRoutes.SIZE), -1, -2, -3, -4, -11, -12, -13, -14);
  }

  public static void main(String[] args) {
    p01New();
    p02Link();
    p03Cut();
    p04Like();
    p05Manner();
    p06Bar();
    p07Domains();
    p08Told();
    p09Own();
    p10Way();
    p11Why();
    p12Count();
    p13Type();
    p14Read();
    p15Turn();
    p16Choose();
    p17Rest();
    p18Clear();
    p19Foreseen();
    p20Stable();
    p21Ring();
    p22Fail();
    p23Seen();
    p24Drift();
    p25Undo();
    p26Seed();
    p27Image();
    p28Restore();
    p29Tried();
    p30Film();
    p31Sheet();
    p32Drop();
    p33Item();
    p34Copy();
    constants();
    end();
  }
}
