/** The last of all that there can be: STREET 15, DOOR 5, PLACE H, the eighth CHANGE, minute 12. */
public final class FullTownTest {
  private static final Check C = new Check();
  private static final int NONE = OutInTime.NONE;
  private static final String FIFTEEN = "street A B1 1;".repeat(15);
  /** H's people go to G by the last street, which is open from 3 to 7. */
  private static final String LAST_STREET =
      FIFTEEN + "street H G5 9;open15 3 7;turns15;safe G99;door H3 30;hold H2;";
  private static final String LAST_DOOR = "door A0 1;".repeat(5) + "door H11 7;slow5;safe H99;hold H0;";
  private static final String ALL_FROM_A = "street A B2 1;".repeat(15) + "street A B1 1;door A0 9;safe B99;";

  public static void main(String[] args) {
    lastStreet();
    lastStreetGoing();
    lastStreetSigns();
    lastStreetWay();
    lastStreetAndMinute();
    lastDoor();
    lastPlace();
    lastPlaceSigns();
    lastChange();
    lastOfSixteenFromOnePlace();
    allFromAWider();
    everythingAtOnce();
    C.finish();
  }

  /** An object of a text, of the same one brought back by its image. */
  private static OutInTime[] both(String text) {
    OutInTime x = Check.of(text);
    x.image();
    Check.read(x, "street C D 3 3;open 0 4 4;turns 0;door C 2 2;safe D 1;hold H 50;");
    x.back();
    return new OutInTime[] {Check.of(text), x};
  }

  private static void lastStreet() {
    C.part("STREET 15");
    for (OutInTime x : both(LAST_STREET)) {
      int[] due = {7, 6, 5, 9, 3, 7, 1, 0, NONE};
      for (int what = 0; what < 9; what++) {
        C.due("street(15, " + what + ")", x.street(15, what), due[what]);
        C.due("street(16, " + what + ")", x.street(16, what), NONE);
      }
      C.due("turn(32768)", x.turn(32768), true);
      C.due("street(15, 0)", x.street(15, 0), 6);
      C.due("street(15, 1)", x.street(15, 1), 7);
      C.due("street(15, 7)", x.street(15, 7), 1);
      C.due("turn(65536)", x.turn(65536), false);
    }
  }

  private static void lastStreetGoing() {
    C.part("STREET 15: going");
    for (OutInTime x : both(LAST_STREET)) {
      int[] most = {0, 0, 0, 0, 0, 0, 0, 0, 9, 18, 27, 30, 30};
      int sum = 0;
      for (int t = 0; t <= 12; t++) {
        sum += most[t];
        C.due("most(" + t + ")", x.most(t), most[t]);
        C.due("all(" + t + ", 0)", x.all(t, 0), sum);
        C.due("kinds(" + t + ", 0)", x.kinds(t, 0), most[t]);
        C.due("cut(" + t + ", 7, " + t + ")", x.cut(t, 7, t), t >= 3 && t < 11 ? 1 : 0);
        int more = t >= 8 && t <= 10 ? t - 7 : 0;
        C.due("wider(" + t + ", 0)", x.wider(t, 0), more > 0 ? 15 : NONE);
        C.due("wider(" + t + ", 1)", x.wider(t, 1), more > 0 ? more : NONE);
      }
      C.due("quick()", x.quick(), 11);
      C.due("turned(0)", x.turned(0), 0);
      C.due("turned(1)", x.turned(1), 11);
      x.turn(32768);
      C.due("turned: most(12)", x.most(12), 0);
      C.due("quick()", x.quick(), NONE);
      C.due("turned(0)", x.turned(0), 0);
    }
    OutInTime x = Check.of(LAST_STREET.replace("H G", "G H"));
    C.due("the highest set: turned(0)", x.turned(0), 32768);
    C.due("turned(1)", x.turned(1), 11);
  }

  private static void lastStreetSigns() {
    C.part("STREET 15: signs");
    for (OutInTime x : both(LAST_STREET)) {
      int[] out = {0, 0, 0, 0, 0, 0, 0, 0, 9, 18, 27, 30, 30};
      C.due("changed(0)", x.changed(0), 7);
      C.due("changed(1)", x.changed(1), 1);
      C.due("changed(2)", x.changed(2), 15);
      C.due("changed(3)", x.changed(3), 114);
      C.due("changed(4)", x.changed(4), 0);
      C.due("signs(-1)", x.signs(NONE), 114);
      C.due("signs(7)", x.signs(7), 15);
      C.due("signs(0)", x.signs(0), 0);
      C.due("sign(7, 16)", x.sign(7, 16), false);
      C.due("sign(7, 15)", x.sign(7, 15), true);
      for (int t = 0; t <= 12; t++) {
        C.due("signed(" + t + ", -1)", x.signed(t, NONE), out[t]);
      }
      C.due("signed(12, 7)", x.signed(12, 7), 0);
      C.due("signed(3, 7)", x.signed(3, 7), 21);
      C.due("signed(3, 8)", x.signed(3, 8), 9);
      for (int m = 0; m <= 12; m++) {
        int sum = (m > 3 ? 45 : 0) + (m > 4 ? 36 : 0) + (m > 5 ? 27 : 0) + (m > 6 ? 6 : 0);
        C.due("falls(15, " + m + ", 0)", x.falls(15, m, 0), sum);
        C.due("falls(15, " + m + ", 1)", x.falls(15, m, 1), sum);
        C.due("falls(16, " + m + ", 1)", x.falls(16, m, 1), NONE);
      }
    }
  }

  private static void lastStreetWay() {
    C.part("STREET 15: a way");
    for (OutInTime x : both(LAST_STREET)) {
      x.enter(15, 3, 9);
      x.enter(15, 7, 9);
      C.due("judged(0)", x.judged(0), 0);
      C.due("judged(17)", x.judged(17), 0);
      C.due("judged(18)", x.judged(18), 9);
      C.due("judged(22)", x.judged(22), 18);
      x.enter(15, 7, 10);
      C.due("more than 9: judged(0)", x.judged(0), 1);
      C.due("judged(1)", x.judged(1), 7);
      C.due("judged(2)", x.judged(2), 15);
      x.enter(15, 7, 0);
      x.enter(15, 2, 1);
      C.due("not open: judged(0)", x.judged(0), 1);
      C.due("judged(1)", x.judged(1), 2);
      C.due("judged(2)", x.judged(2), 15);
    }
  }

  private static void lastStreetAndMinute() {
    C.part("STREET 15 at minute 12");
    OutInTime x = Check.of(LAST_STREET);
    x.enter(15, 12, 20);
    x.slow(15, 12, 7);
    x.image();
    for (int time = 0; time < 3; time++) {
      C.due("judged(3)", x.judged(3), 1);
      C.due("piece(-1, 0)", x.piece(NONE, 0), 1);
      C.due("piece(0, 0)", x.piece(0, 0), 20);
      C.due("piece(0, 1)", x.piece(0, 1), 12);
      C.due("piece(0, 10)", x.piece(0, 10), 15);
      C.due("31", x.wave(15, NONE, NONE, NONE, 12, 12, 11), false);
      C.due("30", x.wave(15, NONE, NONE, NONE, 12, 12, 10), true);
      C.due("31", x.wave(15, NONE, NONE, NONE, 12, 12, 1), false);
      C.due("piece(0, 0)", x.piece(0, 0), 30);
      x.enter(15, 12, 0);
      C.due("the SLOW ones: judged(3)", x.judged(3), 1);
      C.due("piece(-1, 0)", x.piece(NONE, 0), 0);
      x.slow(15, 12, 0);
      C.due("judged(3)", x.judged(3), 0);
      if (time == 1) {
        Check.read(x, "");
      }
      x.back();
    }
    Check.read(x, LAST_STREET);
    C.due("no WAY is told in a new TOWN", x.judged(3), 0);
  }

  private static void lastDoor() {
    C.part("DOOR 5");
    for (OutInTime x : both(LAST_DOOR)) {
      C.due("about(1)", x.about(1), 6);
      C.due("about(2)", x.about(2), 12);
      C.due("about(7)", x.about(7), 7);
      C.due("place(7, 2)", x.place(7, 2), 7);
      C.due("place(0, 2)", x.place(0, 2), 5);
      for (int t = 0; t <= 12; t++) {
        int out = t >= 11 ? 7 : 0;
        C.due("most(" + t + ")", x.most(t), out);
        C.due("kinds(" + t + ", 0)", x.kinds(t, 0), 0);
        C.due("kinds(" + t + ", 1)", x.kinds(t, 1), out);
        C.due("judged(" + (10 + t) + ")", x.judged(10 + t), out);
        C.due("judged(" + (30 + t) + ")", x.judged(30 + t), out);
        C.due("signed(" + t + ", -1)", x.signed(t, NONE), out);
        C.due("signed(" + t + ", 0)", x.signed(t, 0), 5);
        C.due("cut(" + t + ", 0, 0)", x.cut(t, 0, 0), 1);
        C.due("cut(" + t + ", 7, " + t + ")", x.cut(t, 7, t), 0);
      }
      C.due("quick()", x.quick(), NONE);
    }
    OutInTime x = Check.of("door A0 1;".repeat(5) + "street H A1 9;door H11 7;safe A99;");
    C.due("quick()", x.quick(), 12);
    x.enter(0, 11, 7);
    C.due("judged(22)", x.judged(22), 12);
    x.enter(0, 11, 8);
    C.due("judged(0)", x.judged(0), 2);
    C.due("judged(2)", x.judged(2), 7);
    C.due("ring(7)", x.ring(7), 0);
  }

  private static void lastPlace() {
    C.part("PLACE H");
    for (int hold = 0; hold <= 10; hold++) {
      String text = "street A H1 9;open0 0 0;street H G1 9;open1 5 5;door A0 9;safe G9;hold H" + hold + ";";
      for (OutInTime x : both(text)) {
        C.due("place(7, 0)", x.place(7, 0), hold);
        C.due("holds " + hold + ": most(5)", x.most(5), 0);
        C.due("holds " + hold + ": most(6)", x.most(6), Math.min(9, hold));
        C.due("cut(12, 7, 1)", x.cut(12, 7, 1), hold < 9 ? 1 : 0);
        C.due("cut(12, 7, 6)", x.cut(12, 7, 6), 0);
        x.enter(0, 0, 4);
        C.due("judged(0)", x.judged(0), hold < 4 ? 3 : 0);
        C.due("judged(2)", x.judged(2), hold < 4 ? 7 : NONE);
      }
    }
    for (OutInTime x : both("door A 0 4;street A H 1 4;safe H 3;")) {
      C.due("place(7, 1)", x.place(7, 1), 3);
      C.due("most(1)", x.most(1), 3);
      C.due("cut(12, 7, 1)", x.cut(12, 7, 1), 1);
      x.enter(0, 0, 4);
      C.due("judged(11)", x.judged(11), 3);
      x.sign(0, 0);
      C.due("signed(1, -1)", x.signed(1, NONE), 3);
      C.due("signed(1, 7)", x.signed(1, 7), 1);
    }
  }

  private static void lastPlaceSigns() {
    C.part("PLACE H: signs");
    String text = "street H B 1 1;street H B 2 1;turns 1;door H 0 9;safe B 9;";
    OutInTime x = Check.of(text);
    C.due("sign(7, 1)", x.sign(7, 1), true);
    x.image();
    x.sign(7, NONE);
    x.back();
    C.due("of the image: signed(2, -1)", x.signed(2, NONE), 1);
    C.due("changed(0)", x.changed(0), 7);
    C.due("changed(1)", x.changed(1), 1);
    C.due("changed(2)", x.changed(2), 0);
    x.turn(2);
    C.due("turned its SIGN is none: signed(12, -1)", x.signed(12, NONE), 0);
    x.turn(0);
    C.due("it stays none: signed(12, -1)", x.signed(12, NONE), 0);
    C.due("signed(12, 7)", x.signed(12, 7), 9);
    x.back();
    C.due("signed(2, -1)", x.signed(2, NONE), 1);
    Check.read(x, text);
    C.due("SIGNS are none then: signed(12, 7)", x.signed(12, 7), 9);
    for (int m = 0; m <= 12; m++) {
      int late = 0;
      for (int t = 0; t <= 12; t++) {
        late += Math.min(9, Math.min(t, m) + Math.max(0, t - m - 1));
      }
      C.due("falls(0, " + m + ", 1)", x.falls(0, m, 1), late);
    }
    C.due("signs(7)", x.signs(7), 0);
    x = Check.of("street H B 2 1;street H B 1 1;door H 0 9;safe B 9;");
    for (int m = 0; m <= 12; m++) {
      int late = 0;
      for (int t = 0; t <= 12; t++) {
        late += Math.min(9, Math.min(t, m) + Math.max(0, t - m - 1));
      }
      C.due("the second falls: falls(1, " + m + ", 1)", x.falls(1, m, 1), late);
    }
    C.due("signs(7)", x.signs(7), 1);
  }

  private static void lastChange() {
    C.part("the eighth CHANGE");
    for (int last = 0; last < 8; last++) {
      OutInTime x = Check.of("street H B 1 1;turns 0;door H 0 9;safe B 9;");
      for (int n = 0; n < 8; n++) {
        C.due("change", n == last ? x.change(7, 12, 0) : x.change(n < last ? n : n - 1, 3, NONE), true);
      }
      C.due("about(6)", x.about(6), 8);
      C.due("a ninth", x.change(7, 11, 0), false);
      C.due("signed(12, 8)", x.signed(12, 8), 1);
      x.image();
      Check.read(x, "street H B 1 1;turns 0;door H 0 9;safe B 9;");
      for (int n = 0; n < 8; n++) {
        x.change(7 - n, 11, NONE);
      }
      C.due("signed(12, 8)", x.signed(12, 8), 0);
      x.back();
      C.due("about(6)", x.about(6), 8);
      C.due("signed(11, 8)", x.signed(11, 8), 0);
      C.due("signed(12, 8)", x.signed(12, 8), 1);
      C.due("turn(1)", x.turn(1), true);
      C.due("it is none then: signed(12, 8)", x.signed(12, 8), 0);
      C.due("about(6)", x.about(6), 8);
      x.turn(0);
      C.due("it stays none: signed(12, 8)", x.signed(12, 8), 0);
      C.due("told anew", x.change(7, 12, 0), true);
      C.due("signed(12, 8)", x.signed(12, 8), 1);
    }
  }

  private static void lastOfSixteenFromOnePlace() {
    C.part("16 STREETS from one PLACE");
    OutInTime x = Check.of(ALL_FROM_A);
    // one is out by 1, two by 2 .. nine by 9; by a CHANGE at 1 all that a minute later
    int best = 1 + 2 + 3 + 4 + 5 + 6 + 7 + 8 + 9 * 4;
    int[] due = {0, 1, 15, best - 9, 0};
    for (int what = 0; what < 5; what++) {
      C.due("changed(" + what + ")", x.changed(what), due[what]);
    }
    C.due("signs(-1)", x.signs(NONE), best);
    C.due("signs(0)", x.signs(0), 15);
    C.due("falls(15, 0, 0)", x.falls(15, 0, 0), best - 9);
    C.due("falls(15, 12, 1)", x.falls(15, 12, 1), best);
    C.due("falls(14, 0, 1)", x.falls(14, 0, 1), best);
    for (int street = 0; street < 16; street++) {
      C.due("sign(0, " + street + ")", x.sign(0, street), true);
      C.due("signed(1, -1)", x.signed(1, NONE), street == 15 ? 1 : 0);
      x.enter(street, 12, 1);
    }
    C.due("9 of 16 can enter: judged(0)", x.judged(0), 2);
    for (int street = 0; street < 7; street++) {
      x.enter(street, 12, 0);
    }
    C.due("judged(0)", x.judged(0), 0);
    C.due("piece(8, 10)", x.piece(8, 10), 15);
    C.due("piece(9, 10)", x.piece(9, 10), NONE);
    C.due("quick()", x.quick(), 2);
  }

  private static void allFromAWider() {
    C.part("16 STREETS from one PLACE: WIDER");
    OutInTime x = Check.of(ALL_FROM_A);
    C.due("wider(1, 0)", x.wider(1, 0), 15);
    C.due("wider(1, 1)", x.wider(1, 1), 1);
    C.due("by 2 all are out: wider(2, 0)", x.wider(2, 0), NONE);
  }

  private static void everythingAtOnce() {
    C.part("16 STREETS, 6 DOORS, 99 people, all PLACES");
    String text = "street A B1 9;street B C1 9;street C D1 9;street D E1 9;street E F1 9;street F G1 9;street G H1 9;"
        + "street A B1 9;street B C1 9;street C D1 9;street D E1 9;street E F1 9;street F G1 9;street G H1 9;street A B1 9;"
        + "street G H1 9;door A0 17;door B0 17;door C0 17;door D0 17;door E0 17;door F0 14;safe H99;";
    OutInTime x = Check.of(text);
    C.due("about(2)", x.about(2), 99);
    // each PLACE's people go on together: F's are out by 2, E's by 3 .. A's by 7
    int[] most = {0, 0, 14, 31, 48, 65, 82, 99, 99, 99, 99, 99, 99};
    for (int t = 0; t <= 12; t++) {
      C.due("most(" + t + ")", x.most(t), Matrix.most(plan(text), t));
      C.due("all(" + t + ", 0)", x.all(t, 0), Matrix.bestSum(plan(text), t));
      C.due("by hand: most(" + t + ")", x.most(t), most[t]);
    }
    C.due("quick()", x.quick(), 7);
    C.due("signs(-1) is something", x.signs(NONE) > 0, true);
  }

  private static Plan plan(String text) {
    return new Reading(text).plan;
  }
}
