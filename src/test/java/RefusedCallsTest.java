import java.util.function.Supplier;
import java.util.function.ToIntFunction;

/** Refused calls of each promise change nothing, nor does what asks alone; the image and its back (28, 29). */
public final class RefusedCallsTest {
  private static final Check C = new Check();
  private static final int NONE = OutInTime.NONE;
  private static final int LOW = Integer.MIN_VALUE;
  private static final int HIGH = Integer.MAX_VALUE;
  private static final int BLANK = 0x20202020;

  public static void main(String[] args) {
    sceneShowsAll();
    tapeRefused();
    townRefused();
    turnRefused();
    enterAndSlowRefused();
    waveRefused();
    signRefused();
    changeRefused();
    askedOfNothing();
    askedOfThere();
    imageAndBack();
    imageOfNothing();
    imageLeavesTapeAndFault();
    backLeavesTapeAndFault();
    imageIsAsItWas();
    imageOfEachThing();
    C.finish();
  }

  private static int bit(boolean answer) {
    return answer ? 1 : 0;
  }

  private static void refused(String call, ToIntFunction<OutInTime> asked, int answer) {
    Scene.changesNothing(C, Scene::full, call, asked, answer);
  }

  private static void refusedOf(Supplier<OutInTime> scene, String call, ToIntFunction<OutInTime> asked, int answer) {
    Scene.changesNothing(C, scene, call, asked, answer);
  }

  /** What is compared below must show each thing that can be told. */
  private static void sceneShowsAll() {
    C.part("the scene");
    OutInTime x = Scene.full();
    C.due("about(0)", x.about(0), 5);
    C.due("about(4)", x.about(4), 33);
    C.due("about(6)", x.about(6), 4);
    C.due("fault(0)", x.fault(0), 3);
    C.due("street(4, 7)", x.street(4, 7), 1);
    C.due("street(1, 7)", x.street(1, 7), 0);
    C.due("a lawful way", x.judged(0), 0);
    C.due("judged(3)", x.judged(3), 4);
    C.due("pieces", x.piece(NONE, 0), 3);
    C.due("some go by SIGNS", x.signed(12, NONE) > 0, true);
    C.due("of another image: about(6)", x.back() + x.about(6), 6);
    C.due("street(1, 7)", x.street(1, 7), 1);
    C.due("judged(3)", x.judged(3), 2);
    C.due("the tape is a town", x.town(), 1);
    C.due("with all changes: about(6)", Scene.withEightChanges().about(6), 8);
    C.due("with a full tape: about(4)", Scene.withFullTape().about(4), 300);
  }

  private static void tapeRefused() {
    C.part("feed, end: none come, nothing is done");
    Supplier<OutInTime> full = Scene::withFullTape;
    refusedOf(full, "feed of a full tape", x -> x.feed(BLANK, BLANK, BLANK, BLANK, BLANK), NONE);
    refusedOf(full, "feed of a full tape", x -> x.feed(0x2e2e2e2e, 1, 2, 3, LOW), NONE);
    refusedOf(full, "end(301)", x -> x.end(301), NONE);
    refusedOf(full, "end(300): as it is", x -> x.end(300), 300);
    Supplier<OutInTime> almost = () -> {
      OutInTime x = Scene.withFullTape();
      x.end(281);
      return x;
    };
    refusedOf(almost, "feed behind 281", x -> x.feed(0x2e2e2e2e, 0, 0, 0, 0), NONE);
    refused("end(34)", x -> x.end(34), NONE);
    refused("end(33): as it is", x -> x.end(33), 33);
    refused("end(-1)", x -> x.end(-1), NONE);
    refused("end(LOW)", x -> x.end(LOW), NONE);
    refused("end(HIGH)", x -> x.end(HIGH), NONE);
  }

  private static void townRefused() {
    C.part("town: it has a FAULT; the former one stays");
    for (String text : new String[] {".", "street A B 1 1;street B B", "hold H 100;", "door A 0 1;slow 1;", "safe A 1;turns 0;"}) {
      OutInTime x = Scene.full();
      OutInTime y = Scene.full();
      C.due("town() of " + text, Check.read(x, text), NONE);
      y.end(0);
      C.due("about(4)", x.about(4), 0);
      Scene.nowAlike(C, "behind a faulty text", x, y);
      C.due("back()", x.back(), y.back());
      Scene.nowAlike(C, "behind a faulty text, of the image", x, y);
    }
  }

  private static void turnRefused() {
    C.part("turn: false for others");
    for (int set : new int[] {1, 4, 8, 3, 17, 31, 32, 34, 50, 1 << 16, 1 << 20, LOW, LOW + 16, HIGH, -1, -2, -17}) {
      refused("turn(" + set + ")", x -> bit(x.turn(set)), 0);
    }
    refused("turn(16): as it is", x -> bit(x.turn(16)), 1);
  }

  private static void enterAndSlowRefused() {
    C.part("enter, slow: false for others");
    int[][] wrong = {{-1, 0, 1}, {5, 0, 1}, {16, 0, 1}, {LOW, 0, 1}, {HIGH, 0, 1}, {0, -1, 1}, {0, 13, 1}, {0, LOW, 1},
      {0, HIGH, 1}, {0, 0, -1}, {0, 0, 31}, {0, 0, LOW}, {0, 0, HIGH}, {5, 0, 0}, {0, 13, 0}, {-1, 13, 31}, {1, -13, 4}};
    for (int[] w : wrong) {
      String args = "(" + w[0] + ", " + w[1] + ", " + w[2] + ")";
      refused("enter" + args, x -> bit(x.enter(w[0], w[1], w[2])), 0);
      refused("slow" + args, x -> bit(x.slow(w[0], w[1], w[2])), 0);
    }
    refused("enter(0, 0, 3): as it is", x -> bit(x.enter(0, 0, 3)), 1);
    refused("enter(0, 5, 0): as it is", x -> bit(x.enter(0, 5, 0)), 1);
    refused("slow(0, 2, 1): as it is", x -> bit(x.slow(0, 2, 1)), 1);
  }

  private static void waveRefused() {
    C.part("wave: false, changing nothing");
    int[][] wrong = {
      {0, 1, 3, NONE, 0, 0, 0}, {0, 1, 3, NONE, 0, 0, 31}, {0, 1, 3, NONE, 0, 0, -1}, {0, 1, 3, NONE, 0, 0, LOW},
      {0, 1, 3, NONE, 0, 0, HIGH}, {0, 1, 3, NONE, -1, 0, 1}, {0, 1, 3, NONE, 1, 0, 1}, {0, 1, 3, NONE, 0, 13, 1},
      {0, 1, 3, NONE, 0, 10, 1}, {0, NONE, 3, NONE, 0, 0, 1}, {0, 1, NONE, 3, 0, 0, 1}, {NONE, 0, 1, 3, 0, 0, 1},
      {0, 2, NONE, NONE, 0, 0, 1}, {0, 1, 4, NONE, 0, 0, 1}, {0, 1, 3, 0, 0, 0, 1}, {0, 1, 3, 5, 0, 0, 1},
      {0, 1, 5, NONE, 0, 0, 1}, {5, NONE, NONE, NONE, 0, 0, 1}, {0, 1, 3, -2, 0, 0, 1}, {0, 1, -2, NONE, 0, 0, 1},
      {0, NONE, NONE, NONE, 13, 13, 1}, {0, NONE, NONE, NONE, LOW, HIGH, 1}, {0, NONE, NONE, NONE, HIGH, HIGH, 1},
      {0, NONE, NONE, NONE, LOW, LOW, 1}, {0, NONE, NONE, NONE, 0, 0, 28}, {0, 1, NONE, NONE, 0, 0, 29},
      {0, 1, NONE, NONE, 1, 1, 30}, {2, 3, NONE, NONE, 9, 9, 1},
    };
    for (int[] w : wrong) {
      String args = "";
      for (int v : w) {
        args += (args.isEmpty() ? "" : ", ") + v;
      }
      refused("wave(" + args + ")", x -> bit(x.wave(w[0], w[1], w[2], w[3], w[4], w[5], w[6])), 0);
    }
    // the second of these is full; what was told of the first must be taken back
    Supplier<OutInTime> scene = () -> {
      OutInTime x = Scene.full();
      x.enter(3, 6, 30);
      return x;
    };
    refusedOf(scene, "wave(0, 1, 3, -1, 0, 4, 1)", x -> bit(x.wave(0, 1, 3, NONE, 0, 4, 1)), 0);
    refusedOf(scene, "wave(0, 1, 3, -1, 3, 3, 1)", x -> bit(x.wave(0, 1, 3, NONE, 3, 3, 1)), 0);
    OutInTime x = scene.get();
    C.due("wave(0, 1, 3, -1, 0, 2, 1)", x.wave(0, 1, 3, NONE, 0, 2, 1), true);
  }

  private static void signRefused() {
    C.part("sign: false for others, or a STREET that isn't from there");
    int[][] wrong = {{-1, 0}, {8, 0}, {-1, NONE}, {8, NONE}, {LOW, NONE}, {HIGH, NONE}, {0, 1}, {0, 3}, {3, 4}, {1, 0},
      {0, 5}, {0, 16}, {0, -2}, {0, LOW}, {0, HIGH}, {7, 0}};
    for (int[] w : wrong) {
      refused("sign(" + w[0] + ", " + w[1] + ")", x -> bit(x.sign(w[0], w[1])), 0);
    }
    refused("sign(0, 0): as it is", x -> bit(x.sign(0, 0)), 1);
    refused("sign(7, -1): as it is", x -> bit(x.sign(7, NONE)), 1);
  }

  private static void changeRefused() {
    C.part("change: false for others, a STREET that isn't from there, or if there are 8");
    int[][] wrong = {{-1, 1, 0}, {8, 1, 0}, {-1, 1, NONE}, {8, 1, NONE}, {0, 0, 0}, {0, 13, 0}, {0, -1, 0}, {0, LOW, 0},
      {0, HIGH, NONE}, {0, 0, NONE}, {0, 13, NONE}, {0, 1, 1}, {3, 1, 4}, {0, 3, 1}, {0, 3, 5}, {0, 3, -2}, {0, 3, LOW},
      {LOW, 3, 0}, {HIGH, 3, HIGH}, {1, 5, 0}};
    for (int[] w : wrong) {
      String call = "change(" + w[0] + ", " + w[1] + ", " + w[2] + ")";
      refused(call, x -> bit(x.change(w[0], w[1], w[2])), 0);
    }
    int[][] ninth = {{0, 2, 0}, {0, 5, NONE}, {7, 8, NONE}, {1, 3, 1}, {6, 9, NONE}};
    for (int[] w : ninth) {
      String call = "a ninth change(" + w[0] + ", " + w[1] + ", " + w[2] + ")";
      refusedOf(Scene::withEightChanges, call, x -> bit(x.change(w[0], w[1], w[2])), 0);
    }
    refused("change(0, 3, 2): as it is", x -> bit(x.change(0, 3, 2)), 1);
    refusedOf(Scene::withEightChanges, "change(1, 5, -1): as it is", x -> bit(x.change(1, 5, NONE)), 1);
  }

  private static void askedOfNothing() {
    C.part("NONE for others");
    refused("fault(2)", x -> x.fault(2), NONE);
    refused("street(5, 0)", x -> x.street(5, 0), NONE);
    refused("street(0, 8)", x -> x.street(0, 8), NONE);
    refused("place(8, 0)", x -> x.place(8, 0), NONE);
    refused("place(0, 3)", x -> x.place(0, 3), NONE);
    refused("most(13)", x -> x.most(13), NONE);
    refused("cut(12, 0, 13)", x -> x.cut(12, 0, 13), NONE);
    refused("all(13, 0)", x -> x.all(13, 0), NONE);
    refused("all(12, 4)", x -> x.all(12, 4), NONE);
    refused("turned(2)", x -> x.turned(2), NONE);
    refused("wider(13, 0)", x -> x.wider(13, 0), NONE);
    refused("wider(12, 2)", x -> x.wider(12, 2), NONE);
    refused("judged(4)", x -> x.judged(4), NONE);
    refused("judged(43)", x -> x.judged(43), NONE);
    refused("piece(3, 0)", x -> x.piece(3, 0), NONE);
    refused("piece(0, 3)", x -> x.piece(0, 3), NONE);
    refused("kinds(12, 3)", x -> x.kinds(12, 3), NONE);
    refused("signed(13, 0)", x -> x.signed(13, 0), NONE);
    refused("signed(12, 9)", x -> x.signed(12, 9), NONE);
    refused("changed(5)", x -> x.changed(5), NONE);
    refused("falls(5, 0, 0)", x -> x.falls(5, 0, 0), NONE);
    refused("falls(0, 13, 0)", x -> x.falls(0, 13, 0), NONE);
    refused("falls(0, 0, 2)", x -> x.falls(0, 0, 2), NONE);
    refused("ring(8)", x -> x.ring(8), NONE);
    refused("signs(8)", x -> x.signs(8), NONE);
    refused("about(8)", x -> x.about(8), NONE);
  }

  private static void asked(String call, ToIntFunction<OutInTime> asked) {
    refused(call, asked, asked.applyAsInt(Scene.full()));
  }

  private static void askedOfThere() {
    C.part("what asks alone changes nothing");
    asked("street(4, 0)", x -> x.street(4, 0));
    asked("most(7)", x -> x.most(7));
    asked("cut(7, 0, 3)", x -> x.cut(7, 0, 3));
    asked("quick()", OutInTime::quick);
    asked("all(7, 0)", x -> x.all(7, 0));
    asked("all(12, 3)", x -> x.all(12, 3));
    asked("turned(0)", x -> x.turned(0));
    asked("turned(1)", x -> x.turned(1));
    asked("wider(7, 0)", x -> x.wider(7, 0));
    asked("wider(3, 1)", x -> x.wider(3, 1));
    asked("judged(0)", x -> x.judged(0));
    asked("judged(35)", x -> x.judged(35));
    asked("piece(-1, 0)", x -> x.piece(NONE, 0));
    asked("piece(1, 11)", x -> x.piece(1, 11));
    asked("kinds(7, 0)", x -> x.kinds(7, 0));
    asked("kinds(7, 1)", x -> x.kinds(7, 1));
    asked("kinds(7, 2)", x -> x.kinds(7, 2));
    asked("signed(7, 8)", x -> x.signed(7, 8));
    asked("changed(0)", x -> x.changed(0));
    asked("changed(3)", x -> x.changed(3));
    asked("falls(0, 2, 0)", x -> x.falls(0, 2, 0));
    asked("falls(0, 2, 1)", x -> x.falls(0, 2, 1));
    asked("falls(1, 0, 1)", x -> x.falls(1, 0, 1));
    asked("ring(0)", x -> x.ring(0));
    asked("signs(-1)", x -> x.signs(NONE));
    asked("signs(0)", x -> x.signs(0));
  }

  private static void imageAndBack() {
    C.part("THE IMAGE is as all is now; BACK to THE IMAGE (it stays)");
    OutInTime x = Scene.full();
    OutInTime y = Scene.full();
    C.due("image()", x.image(), 5);
    Scene.nowAlike(C, "image() changes nothing of now", x, y);
    x = Scene.full();
    x.image();
    for (int time = 0; time < 2; time++) {
      C.due("town()", Check.read(x, "street A B 1 1;turns 0;door A 0 9;safe B 9;"), 1);
      x.turn(1);
      x.change(1, 3, 0);
      C.due("back()", x.back(), 5);
      x.back();
    }
    Scene.nowAlike(C, "back() twice", x, Scene.full());
  }

  private static void imageOfNothing() {
    C.part("OutInTime(): THE IMAGE is this");
    OutInTime x = Check.of(Scene.TEXT);
    x.sign(0, 0);
    x.enter(0, 0, 1);
    C.due("back()", x.back(), 0);
    Scene.nowAlike(C, "back to nothing", x, new OutInTime());
    C.due("image()", x.image(), 0);
    Check.read(x, Scene.TEXT);
    C.due("image()", x.image(), 5);
    Check.read(x, "");
    C.due("a town of nothing: image()", x.image(), 0);
    C.due("back()", x.back(), 0);
  }

  private static void imageLeavesTapeAndFault() {
    C.part("AN IMAGE: all as it is, but the tape and the latest FAULT");
    OutInTime x = Scene.full();
    x.image();
    C.due("about(4)", x.about(4), 33);
    C.due("fault(0)", x.fault(0), 3);
    C.due("town()", x.town(), 1);
  }

  private static void backLeavesTapeAndFault() {
    C.part("BACK: all is so again, but the tape and the latest FAULT");
    for (int bytes = 0; bytes <= 33; bytes += 33) {
      OutInTime x = Scene.full();
      x.end(0);
      x.image();
      Check.tape(x, "safe G 3;street A B 2 2;hold B 1;".substring(0, bytes));
      x.back();
      C.due("about(4)", x.about(4), bytes);
      C.due("fault(0)", x.fault(0), 3);
      C.due("fault(1)", x.fault(1), 14);
      C.due("town()", x.town(), bytes == 0 ? 0 : 1);
      C.due("fault(0)", x.fault(0), 0);
      x.back();
      C.due("fault(0) behind a text without", x.fault(0), 0);
      C.due("fault(1)", x.fault(1), NONE);
    }
  }

  private static void imageIsAsItWas() {
    C.part("THE IMAGE stays as it was, whatever is told then");
    OutInTime x = Scene.full();
    x.image();
    x.enter(0, 0, 9);
    x.slow(0, 2, 0);
    x.wave(0, 1, NONE, NONE, 4, 6, 2);
    x.sign(0, 2);
    x.sign(1, NONE);
    x.change(0, 3, NONE);
    x.change(2, 6, NONE);
    x.change(7, 1, NONE);
    x.turn(2);
    x.turn(18);
    x.back();
    Scene.nowAlike(C, "back", x, Scene.full());
  }

  private static void imageOfEachThing() {
    C.part("THE IMAGE (what was told, SIGNS, TURNED): each thing alone");
    String text = "street A B 1 1;turns 0;street A B 1 1;door A 0 3;safe B 9;";
    for (int thing = 0; thing < 6; thing++) {
      OutInTime x = Check.of(text);
      OutInTime y = Check.of(text);
      x.image();
      tell(x, thing);
      x.back();
      Scene.nowAlike(C, "without thing " + thing, x, y);
      tell(x, thing);
      x.image();
      Check.read(x, "");
      x.back();
      tell(y, thing);
      Scene.nowAlike(C, "with thing " + thing, x, y);
    }
  }

  private static void tell(OutInTime x, int thing) {
    switch (thing) {
      case 0:
        C.due("enter", x.enter(1, 0, 1), true);
        break;
      case 1:
        C.due("slow", x.slow(1, 0, 1), true);
        break;
      case 2:
        C.due("sign", x.sign(0, 1), true);
        break;
      case 3:
        C.due("change", x.change(0, 2, 0), true);
        break;
      case 4:
        C.due("turn", x.turn(1), true);
        break;
      default:
        C.due("town", Check.read(x, "hold A 1;door A 0 2;"), 0);
    }
  }
}
