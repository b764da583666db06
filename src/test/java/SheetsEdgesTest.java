import java.util.function.Supplier;

/** TRIED (chapter 3), SHEETS and promises 29 to 34: a test for each sentence that names a boundary case. */
public final class SheetsEdgesTest extends Checks {
  /** Two domains that are linked: one item is a row to be tried. */
  private static PolicyRoutes two() { return with(2, "0-1"); }

  /** Of two(): items that are 0 as 0, that are 1 or 9 as 2, all others as NOT; INDEX behind the last one. */
  private static long[] items(PolicyRoutes x, int sheet, int lane, int n) {
    long[] all = new long[n];
    for (int i = 0; i < n; i++) all[i] = x.tried(sheet, lane, i);
    due("no more than " + n + " items of " + sheet, x.tried(sheet, lane, n), INDEX);
    return all;
  }

  private static void tried() {
    // 5 has the customer 0, 4 the provider 5, .. 1 the provider 2.
    Supplier<PolicyRoutes> x = () -> with(6, "0<5,5>4,4>3,3>2,2>1");
    rows(x, "29 they lead to 0 from each", 0, 2, 3, 4, 5, 0);
    rows(x, "29 none has any", 32, 9, 9, 9, 9, 9);
    rows(x, "29 they lead to one that has none", 32, 2, 3, 4, 5, 9);
    rows(x, "29 they lead to one that is its own next", 16, 2, 3, 4, 4, 0);
    rows(x, "29 they lead round", 8, 2, 3, 2, 5, 0);
    rows(x, "29 all round", 32, 2, 3, 4, 5, 1);
    rows(x, "29 without a LINK, too", 2, 0, 3, 4, 5, 0);
    rows(x, "29 each without a LINK but 5", 30, 0, 0, 0, 0, 0);
    // 4 and 3 may go on so, as if 2 had had a right to 210.
    rows(x, "29 figures are as many as they may be", 32 | 4 | 2, 0, 1, 2, 3, 4);
    rows(x, "29 the last one is a DOMAIN", NOT, 2, 3, 4, 6, 0);
    rows(() -> barring(2), "29 2 BARS 1", 0, 0, 9);
    rows(() -> barring(1), "29 2 BARS 0", 4, 0, 1);
    rows(() -> barring(0), "29 2 BARS none", 4, 0, 9);
    rows(PolicyRoutes::new, "29 of four, no LINK at all", 14, 0, 0, 0);
    rows(PolicyRoutes::new, "29 none", 0, 9, 9, 9);
    rows(PolicyRoutes::new, "29 each its own next", 0, 1, 2, 3);
    on(two(), "29 none is CHOSEN by it", "sheet(0,0,1) 1; tried(0,0,0) 0; own(1,3) NONE; count(3) 1; count(7) 2");
    on(two(), "29 what is CHOSEN is not looked at", "turn() 1; cut(0,1) 1; sheet(0,0,1) 1; tried(0,0,0) 2; item(0,0,0,9) 1;"
        + "tried(0,0,0) 0; own(1,3) 10; count(4) 2");
  }

  /** 2 has its way by 1, and bars a set. */
  private static PolicyRoutes barring(int set) {
    PolicyRoutes x = with(3, "0<1,1>2");
    x.bar(2, set);
    return x;
  }

  /** A row in each lane, from its first item on, and from the third of a longer sheet on. */
  private static void rows(Supplier<PolicyRoutes> scene, String what, int set, long... row) {
    for (int lane = 0; lane < 4; lane++) {
      PolicyRoutes x = scene.get();
      fill(x, lane, lane, row);
      due(what + ", lane " + lane, x.tried(lane, lane, 0), set);
      long[] longer = {77, -1, 0, 0, 0, 0, 0, 77};
      System.arraycopy(row, 0, longer, 2, row.length);
      if (row.length < 5) longer[2 + row.length] = 77;
      fill(x, lane, lane, longer);
      due(what + ", lane " + lane + ", from item 2 on", x.tried(lane, lane, 2), set);
    }
  }

  private static void triedItems() {
    for (int n = 2; n <= 6; n++) {
      for (int at = 0; at < n - 1; at++) {
        for (long v : new long[] {-1, n, 6, 7, 8, 10, 127, -128, -9, 9, 0, n - 1}) {
          PolicyRoutes x = sized(n);
          long[] row = {9, 9, 9, 9, 9};
          row[at] = v;
          fill(x, 0, 3, java.util.Arrays.copyOf(row, n - 1));
          boolean told = v == 9 || v >= 0 && v < n;
          due("29 item " + v + " of DOMAIN " + (at + 1) + " of " + n, x.tried(0, 3, 0), !told ? NOT : v == 0 ? 1 << at + 1 : 0);
        }
      }
    }
    for (long v : new long[] {1L << 32, (1L << 32) + 1, (1L << 32) + 9, 9 - (1L << 32), Long.MIN_VALUE, Long.MAX_VALUE, 1L << 8}) {
      PolicyRoutes x = two();
      fill(x, 0, 3, v);
      due("29 a long that has a DOMAIN's lowest bits: " + v, x.tried(0, 3, 0), NOT);
    }
    PolicyRoutes x = new PolicyRoutes();
    fill(x, 0, 1, 9, 9, 9, 8, 9, 9, 9);
    dues("29 n less 1 items, no more", of(x.tried(0, 1, 0), x.tried(0, 1, 1), x.tried(0, 1, 3), x.tried(0, 1, 4)), 0, NOT, NOT, 0);
    dues("29 INDEX", of(x.tried(0, 1, 5), x.tried(0, 1, 6), x.tried(0, 1, 7), x.tried(0, 1, -1), x.tried(0, 1, LOW),
        x.tried(0, 1, HIGH), x.tried(0, 1, HIGH - 2)), INDEX, INDEX, INDEX, INDEX, INDEX, INDEX, INDEX);
    fill(x, 1, 1, 8, 8);
    due("29 INDEX is named ahead of NOT", x.tried(1, 1, 0), INDEX);
    fill(x, 1, 1, 8, 8, 8);
    dues("29 CAST is named ahead of INDEX, INDEX ahead of NOT", of(x.tried(1, 0, -1), x.tried(1, 1, 1), x.tried(1, 1, 0)),
        CAST, INDEX, NOT);
  }

  private static void film() {
    on(two(), "30 9: none", "sheet(0,0,1) 1; film(0,0,0) 1; tried(0,0,0) 2; turn() 1; film(0,0,0) 1; tried(0,0,0) 0");
    for (int lane = 0; lane < 4; lane++) {
      PolicyRoutes x = with(6, "0<5,5>4,4>3,3>2,2>1");
      x.rest();
      fill(x, lane, lane, 77, 77, 77, 77, 77, 77, 77);
      dues("30 second figures, lane " + lane, of(x.film(lane, lane, 1), x.tried(lane, lane, 1), x.tried(lane, lane, 0),
          x.tried(lane, lane, 2)), 5, 0, NOT, NOT);
      x.cut(0, 5);
      dues("30 of what is CHOSEN, not of what it WOULD CHOOSE", of(x.film(lane, lane, 0), x.tried(lane, lane, 0), x.count(4)),
          5, 32, 32);
      x.clear();
      dues("30 none", of(x.film(lane, lane, 2), x.tried(lane, lane, 2), x.film(lane, lane, 3), x.film(lane, lane, -1)),
          5, 0, INDEX, INDEX);
    }
    for (int n = 2; n <= 6; n++) {
      PolicyRoutes x = sized(n);
      x.sheet(0, 2, 24);
      dues("30 n less 1, of " + n, of(x.film(0, 2, 0), x.film(0, 2, 25 - n), x.film(0, 2, 26 - n), x.film(0, 2, 24), x.film(0, 2, 25),
          x.film(0, 2, HIGH), x.film(0, 2, LOW)), n - 1, n - 1, INDEX, INDEX, INDEX, INDEX, INDEX);
      x.sheet(0, 2, n - 1);
      dues("30 a SHEET just so long, of " + n, of(x.film(0, 2, 0), x.film(0, 2, 1), x.film(0, 2, -1)), n - 1, INDEX, INDEX);
      x.sheet(0, 2, n - 2);
      due("30 a SHEET too short, of " + n, x.film(0, 2, 0), INDEX);
    }
    // 3 goes on by 2, though 2 has chosen otherwise since: the second figure is told all the same.
    on(with(4, "0<1,1>2,2>3"), "30 what others have CHOSEN since", "rest() 3; own(3,3) 3210; cut(0,1) 1; turn() 1; sheet(0,0,3) 3;"
        + "film(0,0,0) 3; tried(0,0,0) 0; cut(0,1) 0; tried(0,0,0) 2; own(3,3) 3210");
  }

  private static void sheet() {
    run("31 SHEETS 0 .. 3", "sheet(-1,0,1) BAD; sheet(4,0,1) BAD; sheet(LOW,0,1) BAD; sheet(HIGH,0,1) BAD; sheet(0,0,1) 1;"
        + "sheet(1,1,2) 2; sheet(2,2,3) 3; sheet(3,3,4) 4; drop(0) 1; drop(1) 2; drop(2) 3; drop(3) 4");
    run("31 LANES 0 .. 3", "sheet(0,-1,1) BAD; sheet(0,4,1) BAD; sheet(0,LOW,1) BAD; sheet(0,HIGH,1) BAD; drop(0) NULL");
    run("31 0 to 24 items", "sheet(0,0,0) 0; drop(0) 0; sheet(0,3,24) 24; drop(0) 24; sheet(0,0,25) BAD; sheet(0,0,HIGH) BAD;"
        + "drop(0) NULL");
    run("31 SIZE: n below 0", "sheet(0,0,-1) SIZE; sheet(0,3,LOW) SIZE; drop(0) NULL; sheet(0,1,5) 5; sheet(0,1,-1) SIZE; drop(0) 5");
    run("31 BAD is named ahead of SIZE", "sheet(4,0,-1) BAD; sheet(-1,0,LOW) BAD; sheet(0,4,-1) BAD; sheet(0,-1,-1) BAD");
    PolicyRoutes x = two();
    fill(x, 0, 2, 9, 7, 0, 1);
    dues("31 the row that was", items(x, 0, 2, 4), 2, NOT, 0, 2);
    x.sheet(0, 2, 5);
    dues("31 a new row, of noughts", items(x, 0, 2, 5), 0, 0, 0, 0, 0);
    fill(x, 0, 2, 9, 7, 0, 1);
    x.sheet(0, 3, 3);
    dues("31 a new row of another LANE", of(x.tried(0, 2, 0), x.tried(0, 3, 0), x.tried(0, 3, 1), x.tried(0, 3, 3)), CAST, 0, 0, INDEX);
    x.item(0, 3, 0, 7);
    x.drop(0);
    x.sheet(0, 3, 2);
    dues("31 anew behind a drop", items(x, 0, 3, 2), 0, 0);
    fill(x, 1, 0, 9, 9);
    fill(x, 2, 0, 7, 7);
    dues("31 the others stay", of(x.sheet(1, 0, 24), x.tried(2, 0, 0), x.tried(2, 0, 1), x.tried(0, 3, 1), x.tried(1, 0, 23)),
        24, NOT, NOT, 0, 0);
  }

  private static void drop() {
    run("32 BAD", "drop(-1) BAD; drop(4) BAD; drop(LOW) BAD; drop(HIGH) BAD");
    run("32 NULL", "drop(0) NULL; sheet(0,0,3) 3; drop(0) 3; drop(0) NULL; drop(1) NULL");
    run("32 a SHEET of no items is not nothing", "sheet(3,1,0) 0; tried(3,1,0) INDEX; drop(3) 0; tried(3,1,0) NULL; drop(3) NULL");
    run("32 holds nothing", "sheet(0,0,24) 24; sheet(1,0,1) 1; drop(0) 24; tried(0,0,0) NULL; film(0,0,0) NULL; item(0,0,0,1) NULL;"
        + "copy(0,0,1,0,0) NULL; copy(1,0,0,0,0) NULL; drop(1) 1");
  }

  private static void item() {
    long top = 1L << 63;
    long[][] wraps = {{256, 265, -256, -247, top, 128, 255, -1, 127, 1L << 40, (1L << 40) + 1},
      {65536, 65545, -65536, -65527, top, 32768, 65535, -1, 256, 1L << 40, (1L << 40) + 1},
      {1L << 32, (1L << 32) + 9, -(1L << 32), 9 - (1L << 32), top, 1L << 31, (1L << 32) - 1, -1, 65536, 1L << 40, (1L << 40) + 1}};
    for (int lane = 0; lane < 3; lane++) {
      PolicyRoutes x = two();
      fill(x, lane, lane, wraps[lane]);
      dues("33 its lowest bits, lane " + lane, items(x, lane, lane, 11), 0, 2, 0, 2, 0, NOT, NOT, NOT, NOT, 0, 2);
    }
    PolicyRoutes x = two();
    fill(x, 3, 3, 256, 65536, 1L << 32, top, top + 9, Long.MAX_VALUE, -1, 0, 9, 1);
    dues("33 all bits of a long", items(x, 3, 3, 10), NOT, NOT, NOT, NOT, NOT, NOT, NOT, 0, 2, 2);
    for (int n : new int[] {1, 2, 24}) {
      PolicyRoutes y = two();
      y.sheet(0, 1, n);
      dues("33 the last item, of " + n, of(y.item(0, 1, n - 1, 9), y.tried(0, 1, n - 1), y.item(0, 1, 0, 7), y.tried(0, 1, 0)),
          1, 2, 1, NOT);
      dues("33 INDEX, of " + n, of(y.item(0, 1, n, 1), y.item(0, 1, -1, 1), y.item(0, 1, 24, 1), y.item(0, 1, LOW, 1),
          y.item(0, 1, HIGH, 1)), INDEX, INDEX, INDEX, INDEX, INDEX);
    }
    run("33 of no items", "sheet(0,0,0) 0; item(0,0,0,1) INDEX; item(0,0,-1,1) INDEX");
    run("33 BAD, NULL, CAST, INDEX in this order", "sheet(0,0,2) 2; item(4,4,9,1) BAD; item(-1,0,9,1) BAD; item(0,4,9,1) BAD;"
        + "item(1,-1,9,1) BAD; item(1,1,9,1) NULL; item(0,1,9,1) CAST; item(0,1,-1,1) CAST; item(0,0,2,1) INDEX; item(0,0,1,1) 1");
    PolicyRoutes z = two();
    fill(z, 0, 0, 0, 0, 0);
    z.item(0, 0, 1, 7);
    dues("33 that item alone", items(z, 0, 0, 3), 0, NOT, 0);
  }

  private static void copy() {
    PolicyRoutes x = two();
    fill(x, 0, 2, 0, 7, 9, 0, 7);
    fill(x, 1, 2, 9, 9, 9, 9);
    due("34 come to another one", x.copy(0, 1, 1, 2, 2), 2);
    dues("34 those alone", items(x, 1, 2, 4), 2, 2, NOT, 2);
    dues("34 the first one keeps its own", items(x, 0, 2, 5), 0, NOT, 2, 0, NOT);
    due("34 or the same, as if all were taken ahead", x.copy(0, 0, 0, 1, 4), 4);
    dues("34 forward", items(x, 0, 2, 5), 0, 0, NOT, 2, 0);
    due("34 the other way", x.copy(0, 2, 0, 0, 3), 3);
    dues("34 backward", items(x, 0, 2, 5), NOT, 2, 0, 2, 0);
    due("34 upon themselves", x.copy(0, 0, 0, 0, 5), 5);
    dues("34 nothing changed", items(x, 0, 2, 5), NOT, 2, 0, 2, 0);
    due("34 none", x.copy(0, 0, 1, 0, 0), 0);
    dues("34 none changed", items(x, 1, 2, 4), 2, 2, NOT, 2);
    dues("34 n 0 at the end", of(x.copy(0, 5, 1, 4, 0), x.copy(0, 5, 1, 0, 0), x.copy(0, 0, 1, 4, 0)), 0, 0, 0);
    dues("34 n 0, i or j below 0 or above how many there are", of(x.copy(0, -1, 1, 0, 0), x.copy(0, 0, 1, -1, 0),
        x.copy(0, 6, 1, 0, 0), x.copy(0, 0, 1, 5, 0), x.copy(0, LOW, 1, 0, 0), x.copy(0, 0, 1, HIGH, 0)),
        INDEX, INDEX, INDEX, INDEX, INDEX, INDEX);
    dues("34 n below 0", of(x.copy(0, 0, 1, 0, -1), x.copy(0, 1, 1, 1, -1), x.copy(0, 0, 1, 0, LOW), x.copy(0, 5, 1, 4, -1)),
        INDEX, INDEX, INDEX, INDEX);
    dues("34 one too many", of(x.copy(0, 0, 1, 0, 4), x.copy(0, 0, 1, 0, 5), x.copy(1, 0, 0, 1, 4), x.copy(1, 0, 0, 2, 4),
        x.copy(0, 4, 1, 0, 1), x.copy(0, 5, 1, 0, 1), x.copy(0, 3, 1, 0, 3)), 4, INDEX, 4, INDEX, 1, INDEX, INDEX);
    dues("34 sums beyond an int", of(x.copy(0, 1, 1, 0, HIGH), x.copy(0, HIGH, 1, 0, 1), x.copy(0, 0, 1, HIGH, 1),
        x.copy(0, HIGH, 1, HIGH, HIGH), x.copy(0, LOW, 1, LOW, HIGH)), INDEX, INDEX, INDEX, INDEX, INDEX);
    PolicyRoutes y = two();
    y.sheet(0, 0, 24);
    y.sheet(1, 0, 24);
    for (int i = 0; i < 24; i++) y.item(0, 0, i, i % 3 * 9);
    dues("34 all 24", of(y.copy(0, 0, 1, 0, 24), y.copy(0, 0, 1, 0, 25), y.tried(1, 0, 0), y.tried(1, 0, 1), y.tried(1, 0, 2),
        y.tried(1, 0, 23)), 24, INDEX, 0, 2, NOT, NOT);
  }

  private static void copyRefused() {
    String scene = "sheet(0,0,2) 2; sheet(1,0,0) 0; sheet(2,3,2) 2; ";
    run("34 BAD", scene + "copy(-1,0,0,0,1) BAD; copy(4,0,0,0,1) BAD; copy(0,0,-1,0,1) BAD; copy(0,0,4,0,1) BAD; copy(LOW,0,HIGH,0,1) BAD");
    run("34 NULL (either)", scene + "copy(3,0,0,0,1) NULL; copy(0,0,3,0,1) NULL; copy(3,0,3,0,0) NULL");
    run("34 CAST: of unlike LANES", scene + "copy(0,0,2,0,1) CAST; copy(2,0,0,0,1) CAST; copy(0,0,2,0,0) CAST; copy(0,0,0,0,1) 1");
    run("34 BAD, NULL, CAST, INDEX in this order", scene + "copy(4,0,3,-1,-1) BAD; copy(3,0,4,-1,-1) BAD; copy(3,0,2,-1,-1) NULL;"
        + "copy(0,-1,3,0,9) NULL; copy(0,-1,2,0,9) CAST; copy(0,-1,1,0,0) INDEX");
    run("34 of no items", scene + "copy(1,0,1,0,0) 0; copy(1,0,0,2,0) 0; copy(1,0,0,0,1) INDEX; copy(0,0,1,0,1) INDEX; copy(1,1,0,0,0) INDEX");
    for (int lane = 0; lane < 4; lane++)
      for (int other = 0; other < 4; other++) {
        PolicyRoutes x = new PolicyRoutes();
        x.sheet(0, lane, 1);
        x.sheet(1, other, 1);
        dues("34 LANES " + lane + ", " + other, of(x.copy(0, 0, 1, 0, 1), x.item(0, other, 0, 0), x.tried(0, other, 5),
            x.film(0, other, 5)), lane == other ? 1 : CAST, lane == other ? 1 : CAST, lane == other ? INDEX : CAST,
            lane == other ? INDEX : CAST);
      }
  }

  /** "all but SHEETS, THE TAPE, IMAGES" is undone; "All but SHEETS, THE TAPE" is kept as an image. */
  private static void sheetsStay() {
    PolicyRoutes x = new PolicyRoutes();
    x.image();
    x.domains(2);
    read(x, "0-1");
    fill(x, 0, 0, 9, 7, 0);
    x.undo();
    x.undo();
    x.drift(9);
    x.restore();
    x.domains(2);
    read(x, "0-1");
    x.clear();
    x.rest();
    dues("31 SHEETS stay, whatever is done", items(x, 0, 0, 3), 2, NOT, 0);
  }

  public static void main(String[] args) {
    tried();
    triedItems();
    film();
    sheet();
    drop();
    item();
    copy();
    copyRefused();
    sheetsStay();
    end();
  }
}
