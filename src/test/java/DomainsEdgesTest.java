/** Chapter 1 of the document and promises 1 to 14: a test for each sentence that names a boundary case. */
public final class DomainsEdgesTest extends Checks {
  private static final int[] BEYOND = {LOW, LOW + 1, -2, -1, 6, 7, 31, 32, 33, HIGH - 1, HIGH};

  private static void newObject() {
    run("1 n 4 at first", "count(0) 4; own(3,0) 3; own(4,0) BAD");
    run("1 no LINK at first", "count(1) 0; count(2) 0; cut(0,1) NONE; cut(3,2) NONE");
    run("1 none CHOSEN at first, by 0 always 0 alone", "count(3) 1; own(0,3) 0; own(1,3) NONE; own(2,3) NONE; own(3,3) NONE");
    run("1 at REST", "count(4) 0; rest() 0; turn() 0; foreseen(0) 0; count(7) 0");
    run("1 PERMITTED to 0 is 0 alone", "count(5) 1; own(0,2) 1; way(0,0) 0; way(0,1) NONE; own(1,2) 0; way(1,0) NONE");
    run("1 one STABLE, that of none", "count(6) 1; stable(0,0) 0; stable(0,3) NONE; stable(1,0) NOT");
    run("1 THE DRAW 1 at first", "seed(2) 1");
    run("1 THE TAPE is empty at first", "type(48) 1");
    run("1 an empty TAPE is a TEXT", "read() 0; count(1) 0");
    run("1 nothing to be UNDONE at first", "count(7) 0; undo() NONE");
    run("1 no IMAGE at first", "restore() NONE");
    run("1 SHEETS hold nothing at first", "drop(0) NULL; drop(1) NULL; drop(2) NULL; drop(3) NULL");
    PolicyRoutes x = new PolicyRoutes();
    for (int a = 0; a < 4; a++) {
      dues("1 MANNER 3, BARS none of " + a, of(x.own(a, 0), x.own(a, 1)), 3, 0);
      for (int b = 0; b < 4; b++) {
        if (a != b) dues("1 no LINK, LIKING 0 of " + a + b, of(x.told(a, b, 0), x.told(a, b, 1), x.told(a, b, 2)), 0, 0, 0);
      }
    }
  }

  private static void objectsAreApart() {
    PolicyRoutes x = new PolicyRoutes(), y = new PolicyRoutes();
    on(x, "1 told to one object", "domains(6) 4; link(5,0,1) 0; like(5,0,9) 0; manner(5,0) 3; bar(5,2) 0; turn() 1; seed(9) 1;"
        + "type(48) 1; sheet(0,0,1) 1; image() 1; ring(0) 0; count(6) 1");
    on(y, "1 another knows nothing of it", "count(0) 4; count(1) 0; count(3) 1; count(5) 1; count(6) 1; count(7) 0; seed(3) 1;"
        + "type(48) 1; drop(0) NULL; restore() NONE; ring(0) 0");
    on(new PolicyRoutes(), "1 nor does a later one", "count(0) 4; count(5) 1; seed(3) 1; type(48) 1; drop(0) NULL; restore() NONE");
  }

  /** "An object is used for at most 512 calls": the last of them are answered as the first. */
  private static void lastCalls() {
    PolicyRoutes x = new PolicyRoutes();
    for (int k = 1; k <= 503; k++) due("call " + k, x.like(0, 1, k % 10), (k - 1) % 10);
    on(x, "the last of 512 calls", "count(7) 6; link(0,1,2) 0; turn() 1; way(1,0) 10; ring(0) 0; count(6) 1; fail(1,5,1) 2; undo() 5;"
        + "own(1,3) NONE");
  }

  /** "DOMAINS 0 .. n less 1": each call that is told a domain, for each n. */
  private static void domainsOfEachSize() {
    for (int n = 2; n <= 6; n++) {
      PolicyRoutes x = lax(n);
      int last = n - 1;
      dues("the last one of " + n, of(x.own(last, 0), x.own(last, 2) > 0 ? 1 : 0, x.way(last, 0), x.told(0, last, 0),
          x.told(last, 0, 0), x.stable(0, last), x.fail(last, 0, 0), x.choose(last), x.seen(last) >= 0 ? 1 : 0, x.like(last, 0, 1),
          x.like(0, last, 1), x.manner(last, 1), x.bar(last, 1), x.cut(last, 0), x.cut(0, last), x.link(0, last, 1),
          x.link(last, 0, 1)), 0, 1, last * 10, 2, 2, last * 10, 1, 1, 1, 0, 0, 0, 0, 1, 0, 2, 3);
      dues("the first one of " + n, of(x.own(0, 0), x.own(0, 2), x.way(0, 0), x.stable(0, 0), x.fail(0, 0, 0), x.choose(0),
          x.manner(0, 1), x.bar(0, 1 << last)), 0, 1, 0, 0, 1, 0, 0, 0);
      noDomain(x, n);
      for (int d : BEYOND) if (d != n) noDomain(x, d);
    }
  }

  private static void noDomain(PolicyRoutes x, int d) {
    dues("no domain " + d + " of " + x.count(0), of(x.link(d, 0, 1), x.link(0, d, 1), x.cut(d, 0), x.cut(0, d), x.like(d, 0, 1),
        x.like(0, d, 1), x.manner(d, 1), x.bar(d, 0), x.told(d, 0, 0), x.told(0, d, 0), x.own(d, 0), x.way(d, 0), x.choose(d),
        x.stable(0, d), x.fail(d, 1, 0), x.seen(d), x.link(d, d, 1)),
        BAD, BAD, BAD, BAD, BAD, BAD, BAD, BAD, BAD, BAD, BAD, BAD, BAD, BAD, BAD, BAD, BAD);
  }

  /** "BAD: also b is a" of link, cut, like, told. */
  private static void pairsOfOne() {
    PolicyRoutes x = lax(6);
    for (int a = 0; a < 6; a++)
      dues("b is a " + a, of(x.link(a, a, 0), x.link(a, a, 1), x.link(a, a, 2), x.link(a, a, 3), x.cut(a, a), x.like(a, a, 0),
          x.like(a, a, 5), x.told(a, a, 0), x.told(a, a, 1), x.told(a, a, 2)), BAD, BAD, BAD, BAD, BAD, BAD, BAD, BAD, BAD, BAD);
  }

  private static void link() {
    run("2 SORT of b to a, the other way round to b", "link(0,1,1) 0; told(0,1,0) 1; told(1,0,0) 3; link(2,3,2) 0; told(2,3,0) 2;"
        + "told(3,2,0) 2; link(0,2,3) 0; told(0,2,0) 3; told(2,0,0) 1");
    run("2 SORT 0 .. 3", "link(0,1,-1) BAD; link(0,1,4) BAD; link(0,1,LOW) BAD; link(0,1,HIGH) BAD; link(0,1,3) 0; link(0,1,0) 3");
    run("2 the SORT that it had, of b to a", "link(0,1,1) 0; link(1,0,1) 3; link(0,1,2) 3; link(1,0,0) 2; link(0,1,3) 0");
    run("2 0: there is none", "link(0,1,1) 0; link(0,1,0) 1; count(1) 0; told(0,1,0) 0; told(1,0,0) 0; cut(0,1) NONE");
    run("2 not CUT", "link(0,1,1) 0; cut(0,1) 1; link(0,1,2) 1; told(0,1,1) 0; told(1,0,1) 0; count(2) 0; count(1) 1");
    run("2 NOT: it is of that SORT", "link(0,1,1) 0; link(0,1,1) NOT; link(1,0,3) NOT; link(1,0,1) 3; link(2,3,0) NOT");
    run("2 NOT: and not CUT", "link(0,1,1) 0; cut(0,1) 1; link(0,1,1) 1; told(0,1,1) 0; link(0,1,1) NOT");
    run("2 a CUT one taken away", "link(0,1,2) 0; cut(1,0) 1; link(1,0,0) 2; count(1) 0; count(2) 0; link(1,0,0) NOT;"
        + "link(1,0,2) 0; told(0,1,1) 0");
    run("2 of that pair alone", "link(0,1,1) 0; link(0,2,1) 0; link(0,1,0) 1; told(0,2,0) 1; count(1) 1");
  }

  private static void cut() {
    run("3 CUT (1), if it was not, or mended (0)", "link(0,1,1) 0; cut(0,1) 1; told(0,1,1) 1; told(1,0,1) 1; cut(0,1) 0;"
        + "told(0,1,1) 0; told(1,0,1) 0; cut(1,0) 1; cut(0,1) 0");
    run("3 the SORT stays", "link(0,1,3) 0; cut(0,1) 1; told(0,1,0) 3; told(1,0,0) 1; count(1) 1; count(2) 1; cut(1,0) 0;"
        + "told(0,1,0) 3");
    run("3 NONE", "cut(0,1) NONE; link(0,2,1) 0; cut(0,1) NONE; cut(1,2) NONE; cut(2,0) 1; count(2) 1");
    run("3 NONE of a LINK that is no more", "link(0,1,1) 0; cut(0,1) 1; link(0,1,0) 1; cut(0,1) NONE; cut(1,0) NONE");
    run("3 of n told anew", "link(0,3,1) 0; cut(0,3) 1; domains(3) 4; domains(4) 3; cut(0,3) NONE; link(0,3,1) 0; told(0,3,1) 0");
  }

  private static void like() {
    run("4 LIKING 0 .. 9", "like(0,1,-1) BAD; like(0,1,10) BAD; like(0,1,LOW) BAD; like(0,1,HIGH) BAD; like(0,1,9) 0;"
        + "like(0,1,0) 9; like(0,1,1) 0");
    run("4 of one for another", "like(0,1,7) 0; told(0,1,2) 7; told(1,0,2) 0; like(1,0,3) 0; told(0,1,2) 7; told(1,0,2) 3");
    run("4 NOT: it is so", "like(0,1,0) NOT; like(0,1,4) 0; like(0,1,4) NOT; like(1,0,4) 0");
    run("4 without a LINK, too, and whatever becomes of it", "like(1,2,6) 0; told(1,2,2) 6; link(1,2,1) 0; cut(1,2) 1;"
        + "link(1,2,0) 1; told(1,2,2) 6");
  }

  /** "if it has 1 it PICKS, if it has 2 it SENDS by SORT". */
  private static void manner() {
    run("5 MANNER 0 .. 3", "manner(0,-1) BAD; manner(0,4) BAD; manner(0,LOW) BAD; manner(0,HIGH) BAD; manner(0,3) NOT;"
        + "manner(0,0) 3; manner(0,1) 0; manner(0,2) 1; manner(0,3) 2");
    run("5 NOT: it is so", "manner(1,3) NOT; manner(1,2) 3; manner(1,2) NOT; own(1,0) 2; own(0,0) 3; own(2,0) 3");
    for (int m = 0; m < 4; m++) {
      // 1 has the peer 0, the customer 2 (who has the provider 0, and lets all go) and the peer 3.
      PolicyRoutes x = with(4, "0-1,0>2,1>2,1-3");
      x.manner(2, 0);
      x.manner(1, m);
      boolean picks = m == 1 || m == 3, sends = m == 2 || m == 3;
      dues("5 PICKS by SORT, if it has 1, of " + m, of(x.way(1, 0), x.way(1, 1), x.way(1, 2)), picks ? 120 : 10, picks ? 10 : 120,
          NONE);
      dues("5 SENDS by SORT, if it has 2, of " + m, of(x.why(310), x.why(3120), x.own(3, 2)), sends ? 430 : 0, 0, sends ? 1 : 2);
    }
  }

  private static void bar() {
    for (int n = 2; n <= 6; n++) {
      PolicyRoutes x = new PolicyRoutes();
      x.domains(n);
      int all = (1 << n) - 1;
      for (int d = 0; d < n; d++) {
        int others = all & ~(1 << d);
        String what = "6 of " + n + ", by " + d;
        dues(what + " all others, none", of(x.bar(d, others), x.own(d, 1), x.bar(d, others), x.bar(d, 0), x.bar(d, 0)),
            0, others, NOT, others, NOT);
        dues(what + " it is in it itself", of(x.bar(d, 1 << d), x.bar(d, all)), BAD, BAD);
        dues(what + " one is no DOMAIN", of(x.bar(d, 1 << n), x.bar(d, others | 1 << n), x.bar(d, 64), x.bar(d, 1 << 30),
            x.bar(d, LOW), x.bar(d, LOW | others), x.bar(d, -1), x.bar(d, HIGH), x.bar(d, -2)),
            BAD, BAD, BAD, BAD, BAD, BAD, BAD, BAD, BAD);
        due(what + " nothing of that", x.own(d, 1), 0);
      }
    }
    run("6 which it did", "bar(1,4) 0; bar(1,9) 4; bar(1,13) 9; own(1,1) 13; own(2,1) 0; own(0,1) 0");
    on(with(4, "0<1,1>2,2>3"), "6 BARS none that is in it", "way(3,0) 3210; bar(3,2) 0; way(3,0) NONE; bar(3,4) 2; way(3,0) NONE;"
        + "bar(3,1) 4; way(3,0) NONE; bar(3,0) 1; way(3,0) 3210; bar(2,8) 0; way(3,0) 3210; bar(0,14) 0; way(3,0) 3210");
  }

  private static void domains() {
    run("7 n 2 .. 6", "domains(1) BAD; domains(0) BAD; domains(-1) BAD; domains(7) BAD; domains(LOW) BAD; domains(HIGH) BAD;"
        + "domains(2) 4; domains(6) 2; domains(3) 6; domains(5) 3; domains(4) 5; count(0) 4");
    run("7 NOT: it is so", "domains(4) NOT; count(7) 0; domains(6) 4; domains(6) NOT; domains(2) 6; domains(2) NOT; count(7) 2");
    String rich = "link(2,3,1); link(0,1,2); link(1,3,3); cut(1,3); like(0,3,4); like(3,0,5); like(0,1,6); bar(1,12); bar(0,8);"
        + "bar(3,3); manner(3,0); manner(0,1); choose(1) 1";
    run("7 LINKS with DOMAINS that are not any more are lost", rich + "; domains(3) 4; count(1) 1; count(2) 0; told(0,1,0) 2;"
        + "domains(4) 3; told(2,3,0) 0; told(3,2,0) 0; told(1,3,1) 0; count(1) 1");
    run("7 LIKINGS likewise", rich + "; domains(3) 4; told(0,1,2) 6; domains(4) 3; told(0,3,2) 0; told(3,0,2) 0; told(0,1,2) 6");
    run("7 BARS likewise", rich + "; domains(3) 4; own(1,1) 4; own(0,1) 0; domains(4) 3; own(1,1) 4; own(0,1) 0; own(3,1) 0");
    run("7 new ones are as at first", rich + "; domains(3) 4; domains(6) 3; own(3,0) 3; own(3,1) 0; own(3,3) NONE; own(5,0) 3;"
        + "own(5,1) 0; own(0,0) 1; count(1) 1; told(5,0,0) 0; told(0,5,2) 0; told(5,4,2) 0");
    run("7 none has CHOSEN anything, of fewer", rich + "; count(3) 3; domains(3) 4; count(3) 1; own(1,3) NONE; own(0,3) 0");
    run("7 none has CHOSEN anything, of more", rich + "; count(3) 3; domains(5) 4; count(3) 1; own(1,3) NONE; own(0,3) 0");
    run("7 of more all is kept", rich + "; domains(6) 4; count(1) 3; count(2) 1; told(2,3,0) 1; told(1,3,1) 1; told(3,0,2) 5;"
        + "own(1,1) 12; own(3,1) 3; own(3,0) 0; own(0,0) 1");
    run("7 THE DRAW, THE TAPE, SHEETS, IMAGE stay", "image() 1; seed(77) 1; type(48) 1; sheet(2,1,3) 3; domains(2) 4; seed(5) 77;"
        + "type(62) 2; drop(2) 3; restore() 1; count(0) 4");
    run("7 nothing told but n", "count(6) 1; stable(0,1) NONE; domains(6) 4; count(6) 1; stable(0,1) NONE; stable(0,5) NONE; domains(3) 6;"
        + "stable(0,1) NONE; stable(0,2) NONE; count(5) 1; domains(2) 3; stable(0,1) NONE; stable(0,2) BAD; ring(0) 0");
    on(with(4, "0-1"), "7 one LINK, and n", "stable(0,1) 10; way(1,0) 10; domains(5) 4; stable(0,1) 10; stable(0,4) NONE; way(1,0) 10;"
        + "domains(2) 5; stable(0,1) 10; way(1,0) 10; count(6) 1");
    run("7 0 and 1 are always there", "link(0,1,2); like(1,0,3); bar(1,5); domains(2) 4; told(0,1,0) 2; told(1,0,2) 3; own(1,1) 1;"
        + "own(2,0) BAD; told(0,2,0) BAD");
  }

  private static void told() {
    run("8 0, 1, 2 alone", "told(0,1,-1) BAD; told(0,1,3) BAD; told(0,1,LOW) BAD; told(0,1,HIGH) BAD");
    run("8 without a LINK", "like(0,1,5) 0; told(0,1,0) 0; told(0,1,1) 0; told(0,1,2) 5; told(1,0,2) 0");
    run("8 each of both sides", "link(1,3,1) 0; cut(1,3) 1; like(3,1,2) 0; told(1,3,0) 1; told(3,1,0) 3; told(1,3,1) 1;"
        + "told(3,1,1) 1; told(1,3,2) 0; told(3,1,2) 2");
  }

  private static void own() {
    run("9 0 .. 4 alone", "own(0,-1) BAD; own(0,5) BAD; own(1,LOW) BAD; own(1,HIGH) BAD; own(0,4) 0");
    run("9 NONE", "own(1,3) NONE; own(1,4) NONE; link(1,0,1) 0; own(1,3) NONE; own(1,4) 10; turn() 1; own(1,3) 10; own(1,4) 10;"
        + "cut(1,0) 1; own(1,3) 10; own(1,4) NONE; turn() 1; own(1,3) NONE");
    run("9 of 0 always 0 alone", "own(0,2) 1; own(0,3) 0; own(0,4) 0; bar(0,14) 0; link(0,1,2) 0; turn() 1; own(0,2) 1; own(0,3) 0;"
        + "own(0,4) 0; clear() 1; own(0,3) 0");
    dues("9 the most WAYS", of(lax(2).own(1, 2), lax(3).own(2, 2), lax(4).own(3, 2), lax(5).own(4, 2), lax(6).own(5, 2)),
        1, 2, 5, 16, 65);
  }

  private static void way() {
    PolicyRoutes x = lax(6);
    dues("10 0 on, the last, one more", of(x.way(3, 0), x.way(3, 1), x.way(3, 64), x.way(3, 65), x.way(3, HIGH)),
        30, 310, 354210, NONE, NONE);
    dues("10 k below 0", of(x.way(3, -1), x.way(3, LOW), x.way(0, -1), x.way(6, -1)), BAD, BAD, BAD, BAD);
    dues("10 of 0", of(x.way(0, 0), x.way(0, 1), x.way(0, HIGH)), 0, NONE, NONE);
    long ahead = -1;
    for (int k = 0; k < 65; k++) {
      long next = x.way(3, k);
      due("10 the lesser number first, " + k, next > ahead ? 1 : 0, 1);
      ahead = next;
    }
  }

  /** RANK: by sort, if it picks; then by liking; then by figures and number. */
  private static void rank() {
    // 4 has the providers 1, the peer 2, the customer 3; 5 is a customer, too. They have 0 each, and let all go.
    PolicyRoutes x = with(6, "0-1,0-2,0-3,0-5,4<1,4-2,4>3,4>5");
    for (int d = 0; d < 6; d++) x.manner(d, d == 4 ? 1 : 0);
    on(x, "1 CUSTOMER ahead of PEER ahead of PROVIDER", "way(4,0) 430; way(4,1) 450; way(4,2) 420; way(4,3) 410; way(4,4) NONE");
    on(x, "1 SORT ahead of LIKING", "like(4,1,9) 0; like(4,2,5) 0; way(4,0) 430; way(4,1) 450; way(4,2) 420; way(4,3) 410");
    on(x, "1 SORT ahead of LIKING, 9 against 0", "like(4,2,9) 5; way(4,0) 430; way(4,1) 450; way(4,2) 420; way(4,3) 410; like(4,2,0) 9;"
        + "way(4,0) 430; way(4,2) 420; way(4,3) 410; like(4,2,5) 0");
    on(x, "1 of like ones LIKING", "like(4,5,1) 0; way(4,0) 450; way(4,1) 430; way(4,2) 420; way(4,3) 410");
    on(x, "1 only if it PICKS", "manner(4,2) 1; way(4,0) 410; way(4,1) 420; way(4,2) 450; way(4,3) 430");
    on(x, "1 LIKING of a for b, not of b for a", "like(3,4,9) 0; way(4,2) 450; way(4,3) 430");
    on(x, "1 LIKING 9 ahead of 8", "like(4,2,8) 5; way(4,0) 410; like(4,1,8) 9; way(4,0) 410; like(4,2,9) 8; way(4,0) 420");
    on(x, "1 of like ones the lesser as a number", "like(4,2,0); like(4,1,0); like(4,5,0); way(4,0) 410; way(4,1) 420; way(4,2) 430;"
        + "way(4,3) 450");
    PolicyRoutes y = lax(4);
    on(y, "1 LIKING ahead of fewer figures", "like(3,2,1) 0; way(3,0) 320; way(3,1) 3210; way(3,2) 30; way(3,3) 310; way(3,4) 3120");
    on(y, "1 fewer figures", "like(3,2,0) 1; way(3,0) 30; way(3,1) 310; way(3,2) 320; way(3,3) 3120; way(3,4) 3210");
  }

  /** LETS and TAKES: each of the reasons alone. */
  private static void letsAndTakes() {
    on(with(3, "0-1,1-2"), "1 LETS none of these", "why(210) 420; own(2,2) 0");
    on(with(3, "0-1,1-2"), "1 LETS: it doesn't SEND by SORT", "manner(1,1) 3; why(210) 0; own(2,2) 1");
    on(with(3, "0-1,1>2"), "1 LETS: d is its CUSTOMER", "why(210) 0; link(1,2,2) 1; why(210) 420; link(1,2,3) 2; why(210) 420");
    on(with(3, "0-1,0<2"), "1 LETS: the WAY is 0 alone", "own(0,0) 3; why(10) 0; why(20) 0; link(0,2,1) 3; why(20) 0");
    on(with(3, "0<1,1-2"), "1 LETS: the second DOMAIN is its CUSTOMER", "why(210) 0; link(0,1,2) 3; why(210) 420;"
        + "link(0,1,1) 2; why(210) 420");
    on(with(3, "0<1,1-2"), "1 LETS: the LINK CUT or not", "turn() 1; cut(0,1) 1; own(1,3) 10; own(2,4) 210; own(2,2) 0");
    on(with(3, "0<1,1-2"), "1 LETS not: the LINK is no more", "turn() 1; link(0,1,0) 3; own(1,3) 10; own(2,4) NONE");
    on(with(3, "0-1,1-2"), "1 LETS not: what was CHOSEN goes by a PEER", "turn() 1; cut(0,1) 1; own(2,4) NONE");
    on(with(3, "0<1,1>2"), "1 TAKES: a LINK that isn't CUT", "turn() 1; own(2,4) 210; cut(1,2) 1; own(2,4) NONE; why(210) 120;"
        + "cut(1,2) 0; own(2,4) 210; link(1,2,0) 1; own(2,4) NONE; why(210) 120");
    on(with(3, "0<1,1>2"), "1 TAKES: d is not in that WAY", "rest() 2; own(2,3) 210; cut(0,1) 1; own(1,4) NONE; own(2,4) 210");
    on(with(3, "0<1,1>2"), "1 TAKES: BARS none that is in it", "turn() 1; bar(2,1) 0; own(2,4) NONE; bar(2,2) 1; own(2,4) NONE;"
        + "bar(2,0) 2; own(2,4) 210; bar(1,4) 0; own(2,4) 210");
  }

  private static void why() {
    on(lax(6), "11 six at most", "why(543210) 0; why(1000000) BAD; why(1234500) BAD; why(1111110) BAD; why(999999) BAD;"
        + "why(555550) 153; why(100000) 104");
    on(lax(6), "11 the last 0", "why(0) 0; why(1) BAD; why(5) BAD; why(12) BAD; why(101) BAD; why(543215) BAD");
    on(lax(6), "11 no such row", "why(-1) BAD; why(-10) BAD; why(LOW) BAD; why(HIGH) BAD; why(-2147483640) BAD");
    for (int n = 2; n <= 6; n++) {
      PolicyRoutes x = lax(n);
      int last = n - 1;
      dues("11 each below n, of " + n, of(x.why(last * 10), x.why(n * 10), x.why(n * 100 + 10), x.why(100 + n * 10),
          x.why(90), x.why(n * 100000)), 0, BAD, BAD, BAD, BAD, BAD);
    }
    on(with(4, "0-1,1-2"), "11 1: there is no LINK of both", "why(20) 120; why(30) 130; why(310) 130; why(320) 121");
    on(with(4, "0-1,1>2"), "11 1: or it is CUT", "why(210) 0; cut(1,2) 1; why(210) 120; cut(0,1) 1; why(210) 111; cut(1,2) 0;"
        + "why(210) 111");
    on(lax(4), "11 1: none with itself", "why(110) 110; why(100) 101; why(1100) 102; why(2210) 120");
    on(lax(6), "11 1: whatever is told of others", "bar(5,2) 0; like(5,4,9) 0; cut(0,1) 1; why(100) 101; why(550) 150; why(5500) 102;"
        + "bar(0,62) 0; why(100) 101; why(500) 101");
    on(lax(4), "11 2: d stands behind itself, too", "why(1210) 210; why(1010) 201; why(2010) 201; why(3123210) BAD; why(312310) 211");
    on(lax(4), "11 3: d BARS one that is behind", "bar(3,2) 0; why(310) 330; why(3210) 330; why(320) 0; why(30) 0; why(2310) 331;"
        + "bar(3,1) 2; why(30) 330; why(310) 330");
    on(with(4, "0-1,1-2,2>3"), "11 4: e doesn't LET what is behind d go to it", "why(210) 420; why(3210) 421; manner(1,0) 3;"
        + "why(210) 0; why(3210) 0");
    on(with(3, "0-1,1-2"), "11 the first of these: 1 ahead of 2, 3, 4", "bar(2,2) 0; cut(1,2) 1; why(210) 120; why(12110) 112");
    on(with(3, "0-1,1-2"), "11 the first of these: 2 ahead of 3, 4", "bar(0,2) 0; why(1010) 201; manner(1,0) 3; bar(1,4) 0;"
        + "why(210) 0; why(1210) 210");
    on(with(3, "0-1,1-2"), "11 the first of these: 3 ahead of 4", "why(210) 420; bar(2,1) 0; why(210) 320");
    on(with(4, "0-1,1-2"), "11 from the last but one back", "bar(1,1) 0; why(3210) 312; why(2310) 312; bar(1,0) 1; why(3210) 421");
    on(lax(6), "11 how many figures are ahead of d", "cut(1,0) 1; why(10) 110; why(210) 111; why(3210) 112; why(43210) 113;"
        + "why(543210) 114");
  }

  private static void count() {
    run("12 0 .. 7 alone", "count(-1) BAD; count(8) BAD; count(LOW) BAD; count(HIGH) BAD; count(7) 0");
    PolicyRoutes x = lax(6);
    on(x, "12 the most", "count(0) 6; count(1) 15; count(2) 0; count(3) 1; count(4) 62; count(5) 326; count(7) 6; rest() 1;"
        + "count(3) 63; count(4) 0; count(6) 1");
    for (int a = 0; a < 6; a++) for (int b = 0; b < a; b++) due("12 each is CUT", x.cut(a, b), 1);
    on(x, "12 those that are CUT", "count(1) 15; count(2) 15; count(3) 63; count(4) 62; count(5) 1; count(6) 1; link(0,1,0) 2;"
        + "count(1) 14; count(2) 14; link(0,2,2) 2; count(2) 13; count(1) 14");
    PolicyRoutes y = lax(6);
    on(y, "12 of six, some CUT", "cut(0,1) 1; cut(0,2) 1; cut(0,3) 1; cut(0,4) 1; count(5) 66; own(1,2) 16; own(5,2) 1; way(1,0) 150;"
        + "cut(1,5) 1; cut(4,3) 1; way(1,0) 1250; way(1,1) 1350; way(1,2) 1450; own(0,2) 1");
    on(with(4, "0-1,2-3"), "12 DOMAINS that have CHOSEN a WAY", "count(3) 1; turn() 1; count(3) 3; count(4) 0");
  }

  private static void type() {
    PolicyRoutes x = new PolicyRoutes();
    on(x, "13 32 .. 126", "type(31) BAD; type(127) BAD; type(-1) BAD; type(0) BAD; type(LOW) BAD; type(HIGH) BAD; type(32) 1;"
        + "type(126) 2; type(288) BAD; type(65568) BAD");
    for (int k = 3; k <= 80; k++) due("13 how many it has", x.type(32 + k), k);
    on(x, "13 FULL: 80", "type(48) FULL; type(126) FULL; type(32) FULL");
    on(x, "13 BAD is named ahead of FULL", "type(31) BAD; type(127) BAD");
    on(x, "13 empty then", "read() -21; type(48) 1");
    PolicyRoutes y = new PolicyRoutes();
    for (int k = 1; k <= 80; k++) due("13 blanks are letters of it", y.type(' '), k);
    on(y, "13 a FULL TAPE of blanks", "type(48) FULL; read() 0; type(48) 1; type(62) 2; type(49) 3; read() 1");
  }

  public static void main(String[] args) {
    newObject();
    objectsAreApart();
    lastCalls();
    domainsOfEachSize();
    pairsOfOne();
    link();
    cut();
    like();
    manner();
    bar();
    domains();
    told();
    own();
    way();
    rank();
    letsAndTakes();
    why();
    count();
    type();
    end();
  }
}
