import java.util.function.Supplier;
import java.util.function.ToIntFunction;

/** An object of which much was told, and whether two such are alike in all that can be asked. */
final class Scene {
  static final String TEXT = "street A B 1 3;street B C 2 2;turns 1;street A C 4 2;street C D 1 5;open 3 2 9;"
      + "street D A 3 1;turns 4;hold B 4;hold D 20;door A 0 6;door A 2 4;slow 1;safe C 5;safe D 9;";
  private static final int NONE = OutInTime.NONE;

  private Scene() {
  }

  /** A town, its image with other things told, signs, changes, a lawful way, a fault, and a tape. */
  static OutInTime full() {
    OutInTime x = Check.of(TEXT);
    x.sign(0, 2);
    x.sign(2, 3);
    x.change(0, 4, 0);
    x.enter(2, 1, 2);
    x.slow(2, 5, 1);
    x.turn(2);
    x.image();
    x.turn(16);
    x.sign(0, 0);
    x.sign(1, 1);
    x.change(0, 3, 2);
    x.change(1, 5, NONE);
    x.change(2, 6, 3);
    x.enter(2, 1, 0);
    x.slow(2, 5, 0);
    x.enter(0, 0, 3);
    x.enter(1, 1, 2);
    x.enter(1, 2, 1);
    x.slow(0, 2, 1);
    Check.read(x, "hold A 1;hold A 2;");
    Check.tape(x, "safe G 3;street A B 2 2;hold B 1;");
    return x;
  }

  /** The same with as many changes as there can be. */
  static OutInTime withEightChanges() {
    OutInTime x = full();
    for (int minute = 9; x.about(6) < 8; minute++) {
      x.change(7, minute, NONE);
    }
    return x;
  }

  /** The same with as many bytes as the tape can have. */
  static OutInTime withFullTape() {
    OutInTime x = full();
    while (x.about(4) <= 280) {
      x.feed(0x20202020, 0x20202020, 0x20202020, 0x20202020, 0x20202020);
    }
    while (x.about(4) < 300) {
      x.end(280);
      x.feed(0x20202020, 0x20202020, 0x20202020, 0x20202020, 0x20202020);
    }
    return x;
  }

  /** A call is answered so, and all is as it would be without it. */
  static void changesNothing(Check c, Supplier<OutInTime> scene, String call, ToIntFunction<OutInTime> asked, int answer) {
    OutInTime x = scene.get();
    OutInTime y = scene.get();
    c.due(call, asked.applyAsInt(x), answer);
    alike(c, "behind " + call, x, y);
  }

  static void alike(Check c, String when, OutInTime x, OutInTime y) {
    c.due(when + ": fault(0)", x.fault(0), y.fault(0));
    c.due(when + ": fault(1)", x.fault(1), y.fault(1));
    nowAlike(c, when, x, y);
    c.due(when + ": back()", x.back(), y.back());
    nowAlike(c, when + ", of the image", x, y);
    c.due(when + ": about(4)", x.about(4), y.about(4));
    c.due(when + ": town() of the tape", x.town(), y.town());
    for (int what = 0; what < 8; what++) {
      c.due(when + ", of the tape: about(" + what + ")", x.about(what), y.about(what));
    }
    for (int p = 0; p < 8; p++) {
      c.due(when + ", of the tape: place(" + p + ", 1)", x.place(p, 1), y.place(p, 1));
    }
  }

  /** But for the tape, the fault and the image. */
  static void nowAlike(Check c, String when, OutInTime x, OutInTime y) {
    for (int what = 0; what < 8; what++) {
      c.due(when + ": about(" + what + ")", what == 4 ? 0 : x.about(what), what == 4 ? 0 : y.about(what));
      for (int s = 0; s < y.about(0); s++) {
        c.due(when + ": street(" + s + ", " + what + ")", x.street(s, what), y.street(s, what));
      }
      c.due(when + ": ring(" + what + ")", x.ring(what), y.ring(what));
      for (int which = 0; which < 3; which++) {
        c.due(when + ": place(" + what + ", " + which + ")", x.place(what, which), y.place(what, which));
      }
    }
    goingAlike(c, when, x, y);
    wayAlike(c, when, x, y);
    signsAlike(c, when, x, y);
  }

  private static void goingAlike(Check c, String when, OutInTime x, OutInTime y) {
    for (int t = 0; t <= 12; t += 4) {
      c.due(when + ": most(" + t + ")", x.most(t), y.most(t));
      c.due(when + ": kinds(" + t + ", 2)", x.kinds(t, 2), y.kinds(t, 2));
      c.due(when + ": wider(" + t + ", 1)", x.wider(t, 1), y.wider(t, 1));
      c.due(when + ": cut(" + t + ", 0, " + t + ")", x.cut(t, 0, t), y.cut(t, 0, t));
      c.due(when + ": all(12, " + t / 4 + ")", x.all(12, t / 4), y.all(12, t / 4));
    }
    c.due(when + ": quick()", x.quick(), y.quick());
    c.due(when + ": turned(0)", x.turned(0), y.turned(0));
    c.due(when + ": turned(1)", x.turned(1), y.turned(1));
  }

  private static void wayAlike(Check c, String when, OutInTime x, OutInTime y) {
    for (int what = 0; what < 4; what++) {
      c.due(when + ": judged(" + what + ")", x.judged(what), y.judged(what));
      c.due(when + ": judged(" + (13 + 3 * what) + ")", x.judged(13 + 3 * what), y.judged(13 + 3 * what));
      c.due(when + ": judged(" + (33 + 3 * what) + ")", x.judged(33 + 3 * what), y.judged(33 + 3 * what));
    }
    int pieces = y.piece(NONE, 0);
    c.due(when + ": piece(-1, 0)", x.piece(NONE, 0), pieces);
    for (int i = 0; i <= Math.min(pieces, 2); i++) {
      for (int what : new int[] {0, 1, 2, 10, 11}) {
        c.due(when + ": piece(" + i + ", " + what + ")", x.piece(i, what), y.piece(i, what));
      }
    }
  }

  private static void signsAlike(Check c, String when, OutInTime x, OutInTime y) {
    for (int t = 2; t <= 12; t += 5) {
      for (int what = NONE; what <= 8; what++) {
        c.due(when + ": signed(" + t + ", " + what + ")", x.signed(t, what), y.signed(t, what));
      }
    }
    for (int what = 0; what < 5; what++) {
      c.due(when + ": changed(" + what + ")", x.changed(what), y.changed(what));
    }
    for (int p = NONE; p < 8; p++) {
      c.due(when + ": signs(" + p + ")", x.signs(p), y.signs(p));
    }
    c.due(when + ": falls(0, 2, 0)", x.falls(0, 2, 0), y.falls(0, 2, 0));
    c.due(when + ": falls(0, 2, 1)", x.falls(0, 2, 1), y.falls(0, 2, 1));
  }
}
