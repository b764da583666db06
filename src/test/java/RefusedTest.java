import java.util.ArrayList;
import java.util.List;
import java.util.function.Supplier;

/**
 * Terms: "Answers below 0, of several the first that a call names" and "What is refused changes nothing, but as told".
 * Each refused call is made on one of two objects of the same state; all that can be asked is then alike of both.
 */
public final class RefusedTest extends Twins {
  private static PolicyRoutes fullTape() {
    PolicyRoutes x = scene();
    for (int k = 2; k < 80; k++) x.type(' ');
    return x;
  }

  private static PolicyRoutes unchosen() {
    PolicyRoutes x = scene();
    x.clear();
    return x;
  }

  /** Each call of a row is refused with that answer, and changes nothing. */
  private static void refused(Supplier<PolicyRoutes> scene, int answer, String... calls) {
    for (String call : calls) {
      PolicyRoutes x = scene.get();
      due(call, answer(x, call), answer);
      alike(call, x, scene.get());
    }
  }

  private static void domains() {
    refused(Twins::sceneWithImage, BAD, "link(-1,0,1)", "link(3,0,1)", "link(0,-1,1)", "link(0,3,1)", "link(1,0,-1)",
        "link(1,0,4)", "link(1,1,1)", "link(1,1,0)", "link(3,3,0)", "link(1,0,LOW)", "link(HIGH,LOW,1)");
    refused(Twins::sceneWithImage, NOT, "link(0,1,3)", "link(1,0,1)", "link(0,2,2)");
    refused(Twins::sceneWithImage, BAD, "cut(-1,0)", "cut(3,0)", "cut(0,-1)", "cut(0,3)", "cut(1,1)", "cut(LOW,HIGH)");
    refused(Twins::untouched, NONE, "cut(0,1)", "cut(3,2)");
    refused(Twins::untouched, NOT, "link(0,1,0)", "link(3,2,0)");
    refused(Twins::sceneWithImage, BAD, "like(-1,0,1)", "like(3,0,1)", "like(0,-1,1)", "like(0,3,1)", "like(1,2,-1)",
        "like(1,2,10)", "like(1,1,1)", "like(1,1,0)", "like(1,2,HIGH)");
    refused(Twins::sceneWithImage, NOT, "like(1,2,4)", "like(2,1,0)");
    refused(Twins::sceneWithImage, BAD, "manner(-1,1)", "manner(3,1)", "manner(3,3)", "manner(1,-1)", "manner(1,4)",
        "manner(LOW,0)", "manner(0,HIGH)");
    refused(Twins::sceneWithImage, NOT, "manner(2,1)", "manner(0,3)");
    refused(Twins::sceneWithImage, BAD, "bar(-1,0)", "bar(3,0)", "bar(2,4)", "bar(2,6)", "bar(0,1)", "bar(1,8)",
        "bar(1,9)", "bar(1,-1)", "bar(1,LOW)", "bar(1,HIGH)", "bar(0,64)", "bar(32,2)", "bar(34,2)");
    refused(Twins::sceneWithImage, NOT, "bar(2,2)", "bar(0,0)");
    refused(Twins::sceneWithImage, BAD, "domains(1)", "domains(0)", "domains(-1)", "domains(7)", "domains(LOW)",
        "domains(HIGH)");
    refused(Twins::sceneWithImage, NOT, "domains(3)");
    refused(Twins::sceneWithImage, BAD, "told(-1,0,0)", "told(3,0,0)", "told(0,-1,0)", "told(0,3,0)", "told(1,1,0)",
        "told(0,1,-1)", "told(0,1,3)", "told(0,1,HIGH)");
    refused(Twins::sceneWithImage, BAD, "own(-1,0)", "own(3,0)", "own(3,3)", "own(3,4)", "own(1,-1)", "own(2,5)",
        "own(LOW,3)", "own(2,HIGH)");
    refused(Twins::scene, NONE, "own(2,3)");
    refused(Twins::untouched, NONE, "own(3,3)", "own(1,4)");
    refused(Twins::sceneWithImage, BAD, "way(-1,0)", "way(3,0)", "way(3,99)", "way(1,-1)", "way(0,LOW)");
    refused(Twins::sceneWithImage, NONE, "way(0,1)", "way(1,1)", "way(2,1)", "way(1,HIGH)");
    refused(Twins::sceneWithImage, BAD, "why(-1)", "why(-10)", "why(1)", "why(30)", "why(130)", "why(1000000)", "why(LOW)",
        "why(HIGH)");
    refused(Twins::sceneWithImage, BAD, "count(-1)", "count(8)", "count(LOW)", "count(HIGH)");
    refused(Twins::sceneWithImage, BAD, "type(31)", "type(127)", "type(0)", "type(-1)", "type(LOW)", "type(HIGH)",
        "type(304)");
    refused(RefusedTest::fullTape, FULL, "type(32)", "type(48)", "type(126)");
    refused(RefusedTest::fullTape, BAD, "type(31)", "type(127)");
  }

  private static void choices() {
    refused(Twins::sceneWithImage, BAD, "choose(-1)", "choose(3)", "choose(LOW)", "choose(HIGH)");
    refused(RefusedTest::unchosen, NOT, "clear()");
    refused(Twins::untouched, NOT, "clear()");
    refused(Twins::sceneWithImage, BAD, "foreseen(-1)", "foreseen(3)", "foreseen(LOW)", "foreseen(HIGH)");
    refused(Checks::disagree, NONE, "foreseen(0)");
    refused(Twins::sceneWithImage, BAD, "stable(-1,0)", "stable(LOW,0)", "stable(0,-1)", "stable(0,3)", "stable(99,3)",
        "stable(-1,3)");
    refused(Twins::sceneWithImage, NOT, "stable(1,0)", "stable(1,2)", "stable(HIGH,0)");
    refused(Twins::untouched, NONE, "stable(0,1)", "stable(0,3)");
    refused(Twins::sceneWithImage, BAD, "ring(-1)", "ring(4)", "ring(LOW)", "ring(HIGH)");
    refused(Twins::sceneWithImage, NONE, "ring(1)", "ring(3)");
    refused(Twins::sceneWithImage, BAD, "fail(-1,5,0)", "fail(3,5,0)", "fail(1,-1,0)", "fail(1,11,0)", "fail(1,5,-1)",
        "fail(1,5,2)", "fail(LOW,5,0)", "fail(1,HIGH,1)", "fail(1,5,HIGH)");
    refused(Twins::sceneWithImage, BAD, "seen(-1)", "seen(3)", "seen(LOW)", "seen(HIGH)");
  }

  private static void done() {
    refused(Twins::sceneWithImage, BAD, "drift(0)", "drift(-1)", "drift(41)", "drift(LOW)", "drift(HIGH)");
    refused(Twins::untouched, NONE, "undo()", "restore()");
    refused(Twins::scene, NONE, "restore()");
    refused(Twins::sceneWithImage, BAD, "seed(-1)", "seed(LOW)");
  }

  /** Of scene(): sheet 0 is of lane 0 and three items, 1 of lane 3 and five, 2 of lane 2 and none, 3 holds nothing. */
  private static void sheets() {
    for (String name : new String[] {"tried", "film"}) {
      refused(Twins::sceneWithImage, BAD, name + "(-1,0,0)", name + "(4,0,0)", name + "(0,-1,0)", name + "(0,4,0)",
          name + "(3,4,0)", name + "(3,-1,-1)", name + "(1,4,-1)", name + "(LOW,HIGH,LOW)");
      refused(Twins::sceneWithImage, NULL, name + "(3,0,0)", name + "(3,3,-1)", name + "(3,2,99)", name + "(3,1,HIGH)");
      refused(Twins::sceneWithImage, CAST, name + "(0,1,0)", name + "(0,3,-1)", name + "(1,2,99)", name + "(2,3,0)");
      refused(Twins::sceneWithImage, INDEX, name + "(0,0,-1)", name + "(0,0,2)", name + "(0,0,3)", name + "(0,0,LOW)",
          name + "(0,0,HIGH)", name + "(1,3,4)", name + "(2,2,0)", name + "(2,2,-1)");
    }
    refused(Twins::sceneWithImage, NOT, "tried(1,3,1)", "tried(1,3,2)");
    refused(Twins::sceneWithImage, BAD, "sheet(-1,0,1)", "sheet(4,0,1)", "sheet(0,-1,1)", "sheet(0,4,1)", "sheet(0,0,25)",
        "sheet(0,0,HIGH)", "sheet(4,0,-1)", "sheet(0,4,-1)", "sheet(-1,-1,LOW)");
    refused(Twins::sceneWithImage, SIZE, "sheet(0,0,-1)", "sheet(3,3,-1)", "sheet(0,1,LOW)");
    refused(Twins::sceneWithImage, BAD, "drop(-1)", "drop(4)", "drop(LOW)", "drop(HIGH)");
    refused(Twins::sceneWithImage, NULL, "drop(3)");
    refused(Twins::sceneWithImage, BAD, "item(-1,0,0,1)", "item(4,0,0,1)", "item(0,-1,0,1)", "item(0,4,0,1)",
        "item(3,4,0,1)", "item(1,4,-1,1)");
    refused(Twins::sceneWithImage, NULL, "item(3,0,0,1)", "item(3,3,-1,1)");
    refused(Twins::sceneWithImage, CAST, "item(0,1,0,1)", "item(1,0,-1,1)", "item(2,1,0,1)");
    refused(Twins::sceneWithImage, INDEX, "item(0,0,-1,1)", "item(0,0,3,1)", "item(1,3,5,1)", "item(2,2,0,1)",
        "item(0,0,LOW,1)", "item(0,0,HIGH,1)");
    refused(Twins::sceneWithImage, BAD, "copy(-1,0,0,0,1)", "copy(4,0,0,0,1)", "copy(0,0,-1,0,1)", "copy(0,0,4,0,1)",
        "copy(3,0,4,0,1)", "copy(4,0,3,-1,-1)", "copy(1,-1,4,0,0)");
    refused(Twins::sceneWithImage, NULL, "copy(3,0,0,0,1)", "copy(0,0,3,0,1)", "copy(3,0,3,0,0)", "copy(3,-1,0,-1,-1)",
        "copy(1,0,3,9,9)");
    refused(Twins::sceneWithImage, CAST, "copy(0,0,1,0,1)", "copy(1,0,2,0,0)", "copy(0,-1,1,0,1)", "copy(0,0,1,0,-1)");
    refused(Twins::sceneWithImage, INDEX, "copy(0,-1,0,0,1)", "copy(0,0,0,-1,1)", "copy(0,0,0,0,4)", "copy(0,1,0,0,3)",
        "copy(0,0,0,1,3)", "copy(0,0,0,0,-1)", "copy(0,3,0,0,1)", "copy(0,4,0,0,0)", "copy(0,0,0,4,0)", "copy(0,-1,0,0,0)",
        "copy(0,0,0,-1,0)", "copy(0,HIGH,0,0,1)", "copy(0,1,0,0,HIGH)", "copy(0,0,0,HIGH,HIGH)", "copy(0,LOW,0,0,LOW)");
  }

  /** "THE TAPE, which is empty then (whatever is answered)"; "A FAULT: .. (all else stays)". */
  private static void faultEmptiesTheTape() {
    for (String more : new String[] {"", "0", "4", "x", "1,0>1", "1!!", "1,"}) {
      PolicyRoutes x = scene(), y = scene();
      for (char c : more.toCharArray()) x.type(c);
      due("14 '0>" + more + "' has a fault", x.read() <= -20 ? 1 : 0, 1);
      due("14 empty behind '0>" + more + "'", x.type('1'), 1);
      due("14 of which nothing is left", x.read(), -21);
      List<Long> one = new ArrayList<>(), other = new ArrayList<>();
      view(x, one);
      view(y, other);
      viewPast(x, one);
      viewPast(y, other);
      due("14 all else stays behind '0>" + more + "'", one.equals(other) ? 1 : 0, 1);
    }
  }

  /** "NONE: 40, and there is none": refused, but forty turns are done, and undone as one. */
  private static void fortyTurnsAreDone() {
    PolicyRoutes x = restless(), y = restless();
    long known = x.count(7);
    due("17 none", x.rest(), NONE);
    turns(y, 40);
    dues("17 forty turns are done", chosen(x), chosen(y));
    due("17 somebody has chosen", x.count(3) != 1 ? 1 : 0, 1);
    due("17 undone as one", x.undo(), Math.min(5, known));
    dues("17 as ahead of it", chosen(x), 0, NONE, NONE, NONE);
  }

  /** "0, 1, NONE" of a call that only asks changes nothing either. */
  private static void askingChangesNothing() {
    for (String call : new String[] {"told(0,1,0)", "told(1,2,1)", "told(1,2,2)", "own(1,0)", "own(2,1)", "own(1,2)", "own(1,3)",
      "own(2,4)", "way(1,0)", "why(10)", "why(210)", "count(0)", "count(1)", "count(2)", "count(3)", "count(4)", "count(5)",
      "count(6)", "count(7)", "foreseen(0)", "foreseen(1)", "foreseen(2)", "stable(0,1)", "ring(0)", "ring(2)", "fail(1,5,0)",
      "fail(1,5,1)", "seen(0)", "seen(1)", "seen(2)", "tried(0,0,0)", "tried(0,0,1)", "tried(1,3,0)", "tried(1,3,3)"}) {
      PolicyRoutes x = sceneWithImage();
      due(call + " is answered", answer(x, call) >= 0 ? 1 : 0, 1);
      alike(call, x, sceneWithImage());
    }
  }

  public static void main(String[] args) {
    domains();
    choices();
    done();
    sheets();
    faultEmptiesTheTape();
    fortyTurnsAreDone();
    askingChangesNothing();
    end();
  }
}
