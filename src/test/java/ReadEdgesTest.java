/** A TEXT (chapter 3) and promise 14: every letter in every place of a TEXT, the end there, blanks, a full tape. */
public final class ReadEdgesTest extends Checks {
  /** A text so far, the letters that can stand behind it, and how many links it tells if it may end there (else -1). */
  private static void place(int n, String text, String can, int links) {
    String gaps = text.replace("", "  ");
    for (char c = 33; c <= 126; c++) {
      boolean stands = can.indexOf(c) >= 0;
      due("14 '" + c + "' behind '" + text + "' of " + n, faultOf(n, text + c), stands ? -1 : text.length());
      due("14 '" + c + "' behind '" + gaps + "' of " + n, faultOf(n, gaps + c), stands ? -1 : gaps.length());
    }
    int end = -20 - text.length(), gapsEnd = -20 - gaps.length();
    due("14 the end behind '" + text + "'", read(sized(n), text), links >= 0 ? links : end);
    due("14 the end behind '" + gaps + "'", read(sized(n), gaps), links >= 0 ? links : gapsEnd);
  }

  /** The place of a fault; -1 if there is none but the end. */
  private static int faultOf(int n, String text) {
    int answer = read(sized(n), text);
    return answer > -20 || answer == -20 - text.length() ? -1 : -20 - answer;
  }

  private static void eachPlace() {
    for (int n = 2; n <= 6; n++) {
      String figures = "012345".substring(0, n);
      place(n, "", figures, 0);
      place(n, "0", ">-<", -1);
      place(n, "0>", figures.substring(1), -1);
      place(n, "1-", figures.replace("1", ""), -1);
      place(n, "0>1", "!,", 1);
      place(n, "1-0!", ",", 1);
      place(n, "0<1,", figures, -1);
      place(n, "0<1!,", figures, -1);
      place(n, "0<1,1", ">-<", -1);
      place(n, "0>1,1-", figures.substring(2), -1);
      place(n, "1>0,1<", figures.substring(2), -1);
      place(n, "1>0!,0<", figures.substring(2), -1);
      if (n > 2) {
        place(n, "0>1,2<1", "!,", 2);
        place(n, "0>1,2<1!", ",", 2);
        place(n, "0>1,2-1,2>", figures.replace("2", "").replace("1", ""), -1);
        place(n, "0>1,2-1,0>", figures.substring(2), -1);
      }
    }
  }

  private static void ends() {
    String blanks = " ".repeat(76);
    due("14 a TEXT of none", read(new PolicyRoutes(), ""), 0);
    due("14 one of blanks", read(new PolicyRoutes(), " ".repeat(80)), 0);
    due("14 80 letters without a FAULT", read(new PolicyRoutes(), "0>1" + blanks + "!"), 1);
    due("14 a FAULT at the last place", read(new PolicyRoutes(), "0>1" + blanks + "x"), -20 - 79);
    due("14 the end of a FULL TAPE", read(new PolicyRoutes(), "0>1" + blanks + ","), -20 - 80);
    due("14 what is beyond 80 was refused", read(new PolicyRoutes(), "0>1" + blanks + "!" + "x,"), 1);
    PolicyRoutes x = sized(6);
    due("14 all LINKS, each CUT", read(x, "0>1!,0>2!,0>3!,0>4!,0>5!,1-2!,1-3!,1-4!,1-5!,2<3!,2<4!,2<5!,3>4!,3>5!,4>5!"), 15);
    dues("14 all fifteen", of(x.count(1), x.count(2)), 15, 15);
    due("14 sixteen have a FAULT", read(x, "0>1,0>2,0>3,0>4,0>5,1-2,1-3,1-4,1-5,2<3,2<4,2<5,3>4,3>5,4>5,0>1"), -20 - 62);
    dues("14 all else stays", of(x.count(1), x.count(2)), 15, 15);
  }

  private static void whatIsTold() {
    run("14 the second is CUSTOMER, PEER, PROVIDER of the first", "\"0>1,1-2,2<3\" 3; told(0,1,0) 1; told(1,0,0) 3; told(1,2,0) 2;"
        + "told(2,1,0) 2; told(2,3,0) 3; told(3,2,0) 1; told(0,2,0) 0; count(2) 0");
    run("14 perhaps ! (CUT)", "\"0>1!,2-1,3<2!\" 3; told(0,1,1) 1; told(1,0,1) 1; told(1,2,1) 0; told(2,3,1) 1; count(2) 2");
    run("14 a TEXT tells all LINKS", "link(0,1,2); link(2,3,1); cut(2,3); \"2>3,1-3\" 2; told(0,1,0) 0; told(2,3,0) 1;"
        + "told(2,3,1) 0; count(1) 2; count(2) 0; \"\" 0; count(1) 0");
    run("14 a LINK that is there is no FAULT", "link(0,1,2); \"0>1\" 1; told(0,1,0) 1; \"1>0\" 1; told(0,1,0) 3");
    run("14 nothing but LINKS", "link(0,1,1); link(1,2,1); like(0,1,3); bar(0,2); manner(0,0); seed(8); turn() 1; own(1,3) 10;"
        + "\"2-3\" 1; told(0,1,2) 3; own(0,1) 2; own(0,0) 0; seed(1) 8; own(1,3) 10; count(0) 4; count(4) 2");
    run("14 blanks count for nothing", "\"  0 >  1 ! ,2 -3  \" 2; told(0,1,1) 1; told(2,3,0) 2");
    run("14 empty then, whatever is answered", "\"0>1\" 1; type(48) 1; read() -21; type(48) 1; \"x\" -21; type(48) 1");
    run("14 a FAULT: -20 less its place", "\"x\" -20; \"0x\" -21; \"0>x\" -22; \"0>1x\" -23; \"0>1,x\" -24; \" x\" -21; \"0 >1 ,\" -26");
    run("14 what a FAULT is of an earlier TEXT is forgotten", "\"0>1,0>1\" -26; \"0>1!,x\" -25; \"0>1\" 1; told(0,1,1) 0; count(2) 0");
    run("14 nor is CUT what an earlier TEXT told so", "\"1>0!\" 1; \"1>0\" 1; told(0,1,1) 0; told(1,0,1) 0; \"0>1!\" 1; \"0>1\" 1; told(0,1,1) 0;"
        + "\"0>1!\" 1; \"1<0\" 1; told(1,0,1) 0; count(2) 0; \"0>1!\" 1; \"2-3\" 1; told(0,1,1) 0; told(1,0,1) 0; link(0,1,1) 0; told(0,1,1) 0");
    run("14 UNDONE, none told too", "\"\" 0; count(7) 1; \"0>1\" 1; count(7) 2; \"0>1\" 1; count(7) 3; \"0>\" -22; count(7) 3; undo() 2;"
        + "count(1) 1; undo() 1; count(1) 0; undo() 0");
    run("14 n of now", "domains(2) 4; \"1-2\" -22; domains(3) 2; \"1-2\" 1; domains(6) 3; \"5-4\" 1; \"6-4\" -20; told(4,5,0) 2");
  }

  public static void main(String[] args) {
    eachPlace();
    ends();
    whatIsTold();
    end();
  }
}
