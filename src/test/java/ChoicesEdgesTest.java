import java.util.Arrays;

/** Chapter 2 of the document and promises 15 to 23: a test for each sentence that names a boundary case. */
public final class ChoicesEdgesTest extends Checks {
  /** Domains 1 .. n less 1 in a round, each with a link to 0: each would rather go by the next one straight to 0. */
  private static PolicyRoutes round(int n) {
    PolicyRoutes x = sized(n);
    for (int d = 1; d < n; d++) {
      int next = d == n - 1 ? 1 : d + 1;
      x.manner(d, 0);
      x.link(d, 0, 2);
      x.link(d, next, 2);
      x.like(d, next, 9);
      x.bar(d, (1 << n) - 1 & ~(1 << d | 1 << next | 1));
    }
    return x;
  }

  /** Links of a text; none picks or sends by sort. */
  private static PolicyRoutes freely(int n, String text) {
    PolicyRoutes x = with(n, text);
    for (int d = 0; d < n; d++) x.manner(d, 0);
    return x;
  }

  /** Comes to rest behind 60 turns. */
  private static PolicyRoutes slowToRest() {
    PolicyRoutes x = by(1, 1, 1, 2, 2, 0, 4, 16, 0, 32, 8, 2, 3, 2, 1, 1, 1, 1, 3, 2, 1, 2, 1, 2, 1, 1, 3, 1, 0, 5, 6, 1, 6, 4, 1, 2,
        0, 7, 7, 7, 2, 2, 1, 2, 7, 5, 0, 9, 0, 9, 2, 2, 5, 4, 2, 6, 8, 0, 3, 1, 3, 2, 4);
    x.turn();
    for (int d : new int[] {3, 2, 1, 5, 5, 3}) x.choose(d);
    return x;
  }

  private static void turn() {
    run("15 none to CHOOSE otherwise", "turn() 0; count(7) 0; count(3) 1");
    on(lax(6), "15 all but 0", "turn() 5; count(3) 63; turn() 0; count(4) 0");
    on(with(3, "0<1,1>2"), "15 a WAY that is lost counts", "rest() 2; cut(0,1) 1; turn() 1; own(1,3) NONE; own(2,3) 210; turn() 1;"
        + "own(2,3) NONE; turn() 0");
    on(with(3, "0<1,1>2"), "15 all at once, by what was CHOSEN ahead", "turn() 1; own(1,3) 10; own(2,3) NONE; turn() 1; own(2,3) 210");
    on(disagree(), "15 both at once", "turn() 2; turn() 2; own(1,3) 120; own(2,3) 210; turn() 2; own(1,3) 10; own(2,3) 20");
    on(with(3, "0<1,1>2"), "15 UNDONE only if somebody is not CONTENT", "count(7) 2; turn() 1; count(7) 3; turn() 1; count(7) 4;"
        + "turn() 0; count(7) 4; undo() 3; own(2,3) NONE; own(1,3) 10");
  }

  private static void choose() {
    on(with(3, "0<1,1>2"), "16 whether otherwise (1, 0)", "choose(1) 1; choose(1) 0; choose(2) 1; choose(2) 0; cut(0,1) 1;"
        + "choose(2) 0; choose(1) 1; own(1,3) NONE; choose(2) 1; own(2,3) NONE");
    on(disagree(), "16 that one alone", "choose(2) 1; own(1,3) NONE; own(2,3) 20; count(3) 5");
    on(disagree(), "16 of 0 nothing is otherwise", "choose(0) 0; own(0,3) 0; count(7) 6; count(3) 1");
    run("16 BAD", "choose(-1) BAD; choose(4) BAD; choose(LOW) BAD; choose(HIGH) BAD; choose(3) 0");
    on(with(3, "0<1"), "16 UNDONE only if the one that chooses is not CONTENT", "count(4) 2; choose(2) 0; count(7) 2; choose(0) 0;"
        + "count(7) 2; choose(1) 1; count(7) 3; choose(1) 0; count(7) 3; undo() 2; own(1,3) NONE");
  }

  private static void rest() {
    run("17 there is REST ahead", "rest() 0; count(7) 0");
    on(with(6, "0<1,1>2,2>3,3>4,4>5"), "17 how many", "rest() 5; rest() 0; count(7) 3; count(4) 0; own(5,3) 543210; undo() 2;"
        + "count(3) 1");
    PolicyRoutes x = slow();
    turns(x, 11);
    on(x, "17 40 at most", "foreseen(0) 40; rest() 40; count(4) 0; rest() 0");
    x = slow();
    turns(x, 10);
    on(x, "17 NONE: 40, and there is none", "foreseen(0) 41; rest() NONE; foreseen(0) 1; rest() 1");
    for (int n = 3; n <= 6; n++) {
      x = round(n);
      due("17 for ever, of " + n, x.rest(), NONE);
      // The second of each two turns goes by the next one.
      for (int d = 1; d < n; d++) due("17 forty turns, of " + d, x.own(d, 3), d * 100 + (d == n - 1 ? 1 : d + 1) * 10);
      due("17 one to be UNDONE", x.undo(), 5);
      due("17 as ahead of all forty", x.count(3), 1);
    }
  }

  private static void clear() {
    on(lax(6), "18 how many had", "turn() 5; clear() 5; count(3) 1; own(0,3) 0; own(5,3) NONE; count(4) 62");
    on(disagree(), "18 some had", "choose(2) 1; clear() 1; clear() NOT");
    run("18 NOT: none had", "clear() NOT; count(7) 0; link(0,1,2) 0; clear() NOT; count(7) 1; turn() 1; clear() 1; count(7) 3;"
        + "clear() NOT; count(7) 3; undo() 2; own(1,3) 10");
    on(with(3, "0-1"), "18 what it had without a right to it", "turn() 1; cut(0,1) 1; clear() 1; count(4) 0; clear() NOT");
  }

  private static void foreseen() {
    run("19 0, 1, 2 alone", "foreseen(-1) BAD; foreseen(3) BAD; foreseen(LOW) BAD; foreseen(HIGH) BAD");
    run("19 as it is now", "foreseen(0) 0; foreseen(1) 1; foreseen(2) 0");
    on(with(3, "0<1,1>2"), "19 BEGIN, if PERIOD is 1", "foreseen(0) 2; foreseen(1) 1; foreseen(2) 2; turn() 1; foreseen(0) 1;"
        + "foreseen(2) 1; turn() 1; foreseen(0) 0; foreseen(2) 0");
    on(with(3, "0<1,1>2"), "19 in mind alone", "foreseen(2) 2; count(3) 1; count(7) 2; own(1,3) NONE");
    for (int n = 3; n <= 6; n++)
      on(round(n), "19 NONE: PERIOD is not 1, of " + n, "foreseen(0) NONE; foreseen(1) 2; foreseen(2) 1; turn() " + (n - 1)
          + "; foreseen(0) NONE; foreseen(1) 2; foreseen(2) 0");
    PolicyRoutes x = slowToRest();
    on(x, "19 61 TURNS till it is as it was", "foreseen(0) NONE; foreseen(1) NONE; foreseen(2) NONE");
    x.turn();
    on(x, "19 60 at most", "foreseen(0) 59; foreseen(1) 1; foreseen(2) 59");
    x.turn();
    on(x, "19 59 TURNS", "foreseen(0) 58; foreseen(1) 1; foreseen(2) 58; undo() 5; foreseen(2) 59; undo() 4");
    on(x, "19 61 again", "foreseen(0) NONE; foreseen(1) NONE; foreseen(2) NONE");
    x = slower();
    turns(x, 13);
    on(x, "19 61 TURNS till it goes round", "foreseen(0) NONE; foreseen(1) NONE; foreseen(2) NONE");
    x.turn();
    long j = x.foreseen(1) + x.foreseen(2);
    due("19 the 60th is as an earlier one", j, 60);
    due("19 no rest", x.foreseen(0), NONE);
    roundIsSo(14, x.foreseen(2), x.foreseen(1));
    x = slowest();
    turns(x, 40);
    on(x, "19 a PERIOD above 60", "foreseen(0) NONE; foreseen(1) NONE; foreseen(2) NONE");
    long[] now = chosen(x);
    turns(x, 78);
    dues("19 that is 78", chosen(x), now);
  }

  /** Of slower(), from some turn on: all is as it was for the first time behind begin and period turns. */
  private static void roundIsSo(int from, int begin, int period) {
    long[][] seen = new long[begin + period + 1][];
    for (int k = 0; k < seen.length; k++) {
      PolicyRoutes x = slower();
      turns(x, from + k);
      seen[k] = chosen(x);
      for (int i = 0; i < k; i++)
        due("19 " + k + " as " + i, Arrays.equals(seen[i], seen[k]) ? 1 : 0, i == begin && k == begin + period ? 1 : 0);
    }
  }

  private static void stable() {
    on(disagree(), "20 0 on", "count(6) 2; stable(0,1) 10; stable(1,1) 120; stable(2,1) NOT; stable(2,0) NOT; stable(HIGH,2) NOT");
    on(disagree(), "20 k below 0", "stable(-1,0) BAD; stable(LOW,0) BAD; stable(-1,3) BAD; stable(0,3) BAD; stable(2,3) BAD; stable(0,-1) BAD");
    for (int n = 3; n <= 6; n++) on(round(n), "20 of a round " + n, "count(6) " + (n % 2 == 0 ? 0 : 2));
    on(round(4), "20 there are none", "stable(0,0) NOT; stable(0,1) NOT");
    on(round(5), "20 the least number first", "stable(0,1) 10; stable(0,2) 230; stable(0,3) 30; stable(0,4) 410; stable(1,1) 120;"
        + "stable(1,2) 20; stable(1,3) 340; stable(1,4) 40; stable(1,0) 0");
    // 2 and 3 would each rather go by the other; 1 has a way only if 2 goes straight.
    on(freely(4, "0-2,0-3,2-3,1-2"), "20 9 if none", "like(2,3,1) 0; like(3,2,1) 0; bar(1,8) 0; count(6) 2; stable(0,1) 120; stable(0,2) 20; stable(0,3) 320;"
        + "stable(1,1) NONE; stable(1,2) 230; stable(1,3) 30");
    // Two pairs of that kind: 0103, 0140, 2003, 2040.
    PolicyRoutes y = freely(5, "0-1,0-2,0-3,0-4,1-2,3-4");
    on(y, "20 four of them", "like(1,2,1); like(2,1,1); like(3,4,1); like(4,3,1); count(6) 4; stable(0,2) 210; stable(0,4) 430;"
        + "stable(1,2) 210; stable(1,3) 340; stable(1,4) 40; stable(2,1) 120; stable(2,3) 30; stable(2,4) 430; stable(3,1) 120;"
        + "stable(3,3) 340; stable(4,0) NOT");
    on(y, "20 whatever is CHOSEN now", "turn() 4; turn() 4; count(6) 4; stable(1,3) 340; clear() 4; stable(3,3) 340");
    on(with(4, "0-1,2-3"), "20 those that lead round don't count", "count(6) 1; stable(0,1) 10; stable(0,2) NONE; stable(0,3) NONE");
    on(with(3, "1-2"), "20 nor those that lead to one that has none", "count(6) 1; stable(0,1) NONE; stable(0,2) NONE; stable(1,1) NOT");
    on(lax(6), "20 all linked but 0", "link(0,1,0); link(0,2,0); link(0,3,0); link(0,4,0); link(0,5,0); count(6) 1; stable(0,5) NONE");
    on(with(3, "0<1,1>2"), "20 by what it BARS", "bar(2,2) 0; count(6) 1; stable(0,1) 10; stable(0,2) NONE; bar(2,0) 2; stable(0,2) 210;"
        + "bar(2,1) 0; stable(0,2) NONE; bar(1,1) 0; stable(0,1) NONE");
    on(with(2, "0-1"), "20 of two", "count(6) 1; stable(0,0) 0; stable(0,1) 10; cut(0,1) 1; count(6) 1; stable(0,1) NONE; stable(0,2) BAD");
  }

  private static void ring() {
    run("21 0 .. 3 alone", "ring(-1) BAD; ring(4) BAD; ring(LOW) BAD; ring(HIGH) BAD");
    run("21 NONE", "ring(0) 0; ring(1) NONE; ring(2) 0; ring(3) NONE");
    on(with(6, "0<1,1>2,2>3,3>4,4>5"), "21 NONE of a chain", "ring(0) 0; ring(1) NONE; ring(2) 0; ring(3) NONE");
    on(disagree(), "21 at least two", "ring(0) 1; ring(1) 2; ring(2) 2; ring(3) 120");
    for (int n = 3; n <= 6; n++)
      on(round(n), "21 of a round " + n, "ring(0) 1; ring(1) " + (n - 1) + "; ring(2) " + (n - 1) + "; ring(3) 120");
    on(disagree(), "21 P is better", "like(1,2,0) 1; ring(0) 0; like(1,2,1) 0; ring(0) 1; like(2,1,0) 1; ring(0) 0");
    on(disagree(), "21 both being PERMITTED", "cut(1,2) 1; ring(0) 0; cut(1,2) 0; ring(0) 1; cut(0,1) 1; ring(0) 0; cut(0,1) 0;"
        + "bar(1,4) 0; ring(0) 0");
    // 1 likes 2 and 2 likes 3, 3 likes 1; u and P together is permitted, but longer: less good.
    PolicyRoutes x = lax(4);
    on(x, "21 or less good to it than R", "like(1,2,5); like(2,3,5); like(3,1,5); ring(0) 1; ring(1) 3; ring(2) 6; ring(3) 120");
    // 120 is better than 10, but 3120 less good than 310; that goes on as 2310, better than 20, but 12310 is not permitted.
    on(x, "21 R is u and P together", "like(3,1,0) 5; ring(0) 1; ring(1) 3; ring(2) 3; ring(3) 120");
    // 210 is better than 230, but 1210 not permitted; 1230 is better than 10, but 21230 not permitted.
    on(x, "21 u and P together is not PERMITTED to u", "like(2,3,0) 5; ring(0) 1; ring(1) 2; ring(2) 2; ring(3) 210; like(1,2,0) 5; ring(0) 0");
    for (int n = 2; n <= 6; n++) on(lax(n), "21 none, if the shorter one is better to all, of " + n, "ring(0) 0; ring(2) 0; ring(3) NONE");
    // 230 is better than 240, but 1230 better than 1240, too: 1240 is in no ring. 130, 31240; 130, 230, 1230 are rings.
    on(freely(5, "0-3,0-4,1-2,1-3,2-3,2-4"), "21 u and P together is better than R", "like(3,1,2) 0; ring(0) 1; ring(1) 2; ring(2) 4; ring(3) 130; why(1240) 0");
    // Worked out apart by trying all out.
    on(lax(6), "21 of 326 WAYS", "like(1,2,5); like(2,3,5); like(3,4,5); like(4,5,5); like(5,1,5); ring(1) 2; ring(2) 204; ring(3) 120");
    on(lax(6), "21 of 326 WAYS, others", "like(1,4,1); like(3,1,9); like(5,2,2); like(5,3,2); ring(1) 2; ring(2) 174; ring(3) 130");
    on(lax(6), "21 of two that disagree among six", "like(4,5,1); ring(2) 40; ring(3) 140; like(5,4,1); ring(1) 2; ring(2) 94; ring(3) 140;"
        + "bar(4,14); bar(5,14); ring(1) 2; ring(2) 2; ring(3) 450");
    on(freely(6, "0-1,1-2,0-3,1-4,2-4,3-4,0-5,2-5,3-5,4-5"), "21 how many are in RINGS", "like(1,2,1) 0; ring(1) 2; ring(2) 21; ring(3) 210");
    on(freely(6, "0-1,1-2,0-3,1-3,2-3,1-4,2-4,2-5,3-5,4-5"), "21 how many are in RINGS", "like(1,4,2) 0; ring(1) 2; ring(2) 19; ring(3) 210");
    on(freely(5, "0-1,1-2,0-3,1-3,1-4,2-4,3-4"), "21 not those that lead from one RING to another alone", "like(1,4,1) 0; like(2,4,2) 0;"
        + "ring(0) 1; ring(1) 2; ring(2) 4; ring(3) 410");
    // 3 and 4 as two that disagree, in a world of five: the least is not of 1.
    on(freely(5, "0-3,0-4,3-4,0-1"), "21 the least of these as a number", "like(3,4,1); like(4,3,1); ring(1) 2; ring(2) 2; ring(3) 340");
    // A round of three beside two that disagree: the least length and the least number are of unlike rings.
    on(freely(6, "0-1,0-2,0-3,1-2,2-3,3-1,0-4,0-5,4-5"), "21 the least length", "like(1,2,5); like(2,3,5); like(3,1,5); bar(1,8); bar(2,2); bar(3,4); ring(1) 3; ring(2) 3;"
        + "like(4,5,1); like(5,4,1); ring(1) 2; ring(2) 5; ring(3) 120");
  }

  private static void fail() {
    PolicyRoutes one = with(2, "0-1");
    long[][] tenths = {{1, 1}, {9, 10}, {4, 5}, {7, 10}, {3, 5}, {1, 2}, {2, 5}, {3, 10}, {1, 5}, {1, 10}, {0, 1}};
    for (int c = 0; c <= 10; c++) dues("22 one LINK by " + c + " of 10", of(one.fail(1, c, 0), one.fail(1, c, 1)), tenths[c]);
    for (int c = 0; c <= 10; c++) dues("22 of 0 by " + c, of(one.fail(0, c, 0), one.fail(0, c, 1)), 1, 1);
    on(one, "22 0 .. 10", "fail(1,-1,0) BAD; fail(1,11,0) BAD; fail(1,LOW,0) BAD; fail(1,HIGH,1) BAD; fail(0,11,1) BAD");
    on(one, "22 above (0), below (1)", "fail(1,5,-1) BAD; fail(1,5,2) BAD; fail(1,5,LOW) BAD; fail(1,5,HIGH) BAD");
    on(one, "22 BAD", "fail(2,5,0) BAD; fail(-1,5,0) BAD; fail(LOW,5,1) BAD; fail(HIGH,5,1) BAD");
    on(one, "22 no WAY, the LINK being CUT", "cut(0,1) 1; fail(1,0,0) 0; fail(1,0,1) 1; fail(1,5,0) 0; fail(1,5,1) 1; fail(0,5,0) 1");
    on(with(3, "0<1,1>2"), "22 each LINK of a WAY", "fail(2,5,0) 1; fail(2,5,1) 4; fail(2,2,0) 16; fail(2,2,1) 25; fail(2,9,0) 1;"
        + "fail(2,9,1) 100; fail(2,0,0) 1; fail(2,0,1) 1; fail(2,10,0) 0; fail(2,10,1) 1");
    on(with(3, "0<1,1-2"), "22 a LINK that is in no WAY of it", "fail(1,5,0) 1; fail(1,5,1) 2");
    on(with(3, "0-1,1-2"), "22 PERMITTED ones alone", "fail(2,0,0) 0; fail(2,0,1) 1; manner(1,0) 3; fail(2,5,0) 1; fail(2,5,1) 4");
    on(with(3, "0<1,0<2,1-2"), "22 PERMITTED as it is now, not as it would be without the LINKS", "fail(1,5,0) 5; fail(1,5,1) 8;"
        + "rest() 1; fail(1,5,0) 5; clear() 2; fail(2,5,1) 8");
    PolicyRoutes all = lax(6);
    long[][] odds = {{1, 1}, {124997490426627L, 125000000000000L}, {30497492196L, 30517578125L}, {124341590307599L, 125000000000000L},
      {29792778573L, 30517578125L}, {3783, 4096}, {24691983362L, 30517578125L}, {77120798459991L, 125000000000000L},
      {11356701069L, 30517578125L}, {18148039533683L, 125000000000000L}, {0, 1}};
    for (int c = 0; c <= 10; c++)
      for (int d = 1; d < 6; d++)
        dues("22 fifteen LINKS by " + c + ", of " + d, of(all.fail(d, c, 0), all.fail(d, c, 1)), odds[c]);
  }

  /** Below is as great as it may be: 10 fifteen times by itself. Worked out apart by trying all out. */
  private static void failOfAll() {
    PolicyRoutes x = lax(6);
    x.bar(2, 8);
    x.bar(4, 32);
    x.bar(5, 4);
    long[] above = {999978779762919L, 993397952321173L, 588524064389337L, 142231803854671L};
    int[] by = {1, 3, 7, 9};
    for (int k = 0; k < 4; k++)
      dues("22 in lowest terms, by " + by[k], of(x.fail(1, by[k], 0), x.fail(1, by[k], 1)), above[k], 1000000000000000L);
    dues("22 never, always", of(x.fail(1, 0, 0), x.fail(1, 0, 1), x.fail(1, 10, 0), x.fail(1, 10, 1)), 1, 1, 0, 1);
  }

  private static void seen() {
    run("23 all MANNERS", "seen(0) 15; seen(1) 15; seen(3) 15");
    run("23 BAD", "seen(-1) BAD; seen(4) BAD; seen(LOW) BAD; seen(HIGH) BAD");
    on(with(3, "0<1"), "23 none of them: another is not CONTENT", "seen(0) 0; seen(1) 0; seen(2) 0; turn() 1; seen(2) 15");
    on(with(3, "0-2,1-2"), "23 if it SENDS by SORT", "rest() 1; own(1,3) NONE; seen(2) 12; seen(1) 15; seen(0) 15");
    PolicyRoutes x = with(3, "0-1,0-2,1>2");
    on(x, "23 if it PICKS by SORT", "manner(2,0) 3; rest() 2; own(1,3) 120; own(2,3) 20; seen(1) 10; own(1,0) 3");
    on(x, "23 if it doesn't SEND by SORT", "seen(2) 3; own(2,0) 0; count(4) 0");
    PolicyRoutes y = with(4, "0>1,0-2,1-2,1-3");
    on(y, "23 if it does both", "manner(2,0) 3; rest() 2; own(1,3) 120; own(3,3) NONE; seen(1) 8; seen(2) 3; seen(3) 15; seen(0) 15");
    on(y, "23 as it is CHOSEN now, without a TURN", "manner(1,0) 3; count(4) 10; seen(1) 8; seen(2) 0; seen(3) 0; own(1,0) 0; count(7) 4");
  }

  /** "It WOULD CHOOSE the best of all that it TAKES of WAYS that others have CHOSEN (none, if there is nothing)". */
  private static void wouldChoose() {
    on(with(4, "0<1,0<2,1>3,2>3"), "2 none, if there is nothing", "own(3,4) NONE; own(1,4) 10; choose(2) 1; own(3,4) 320;"
        + "choose(1) 1; own(3,4) 310; like(3,2,1) 0; own(3,4) 320");
    on(with(4, "0<1,0<2,1>3,2>3"), "2 what is PERMITTED but not CHOSEN doesn't count", "own(3,2) 2; own(3,4) NONE; count(4) 6");
    on(with(3, "0<1,1>2"), "2 what is CHOSEN but not PERMITTED does", "rest() 2; cut(0,1) 1; own(1,2) 0; own(2,2) 0; own(2,4) 210; count(4) 2");
    on(with(2, ""), "2 CONTENT with none", "count(4) 0; rest() 0; link(0,1,1) 0; count(4) 2; cut(0,1) 1; count(4) 0");
  }

  public static void main(String[] args) {
    turn();
    choose();
    rest();
    clear();
    foreseen();
    stable();
    ring();
    fail();
    failOfAll();
    seen();
    wouldChoose();
    end();
  }
}
