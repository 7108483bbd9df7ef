/** Terms III, promises 21 to 27: people who go by signs, each bound on both its sides. */
public final class SignBoundsTest {
  private static final Check C = new Check();
  private static final int NONE = OutInTime.NONE;
  private static final int LOW = Integer.MIN_VALUE;
  private static final int HIGH = Integer.MAX_VALUE;
  private static final int[] PLACES = {LOW, -3, -2, -1, 0, 1, 2, 3, 4, 5, 6, 7, 8, 9, HIGH};
  private static final int[] STREETS = {LOW, -3, -2, -1, 0, 1, 2, 3, 4, 15, 16, 17, HIGH};
  private static final int[] TIMES = {LOW, -13, -2, -1, 0, 1, 6, 11, 12, 13, 14, HIGH};
  /** Streets from A, B, H and A. */
  private static final String TOWN = "street A B 1 1;street B H 1 1;street H A 1 1;street A H 2 1;";
  private static final int[] FROM = {0, 1, 7, 0};

  public static void main(String[] args) {
    signOfAPlace();
    signAsStreetsGoNow();
    signedWhats();
    comeAtTheDoorsMinute();
    goOutAsLongAsItTakes();
    asManyAsMayEnter();
    asFarAsItIsOpen();
    onStreetsThen();
    holdIsntAsked();
    changeMinutes();
    eightChanges();
    theLatestThatIsComeTo();
    changedWhats();
    changedOfLikeOnes();
    changedNoneGreater();
    changedNinth();
    changedInPlace();
    fallsWhats();
    fallsFromAMinuteOn();
    fallsOfBothEnds();
    ringPlaces();
    ringOfDoors();
    ringSizes();
    signsWhats();
    signsOfLikeOnes();
    mostChoices();
    C.finish();
  }

  private static boolean isPlace(int place) {
    return place >= 0 && place < 8;
  }

  private static boolean isMinute(int t) {
    return t >= 0 && t <= 12;
  }

  private static boolean isFrom(int place, int street) {
    return isPlace(place) && (street == NONE || street >= 0 && street < 4 && FROM[street] == place);
  }

  private static void signOfAPlace() {
    C.part("sign: False for others, or a STREET that isn't from there");
    for (int place : PLACES) {
      for (int street : STREETS) {
        OutInTime x = Check.of(TOWN + "door A 0 1;door B 0 1;door H 0 1;");
        C.due("sign(" + place + ", " + street + ")", x.sign(place, street), isFrom(place, street));
        boolean goes = isFrom(place, street) && street != NONE;
        C.due("signed(0, 8)", x.signed(0, 8), goes ? 1 : 0);
      }
    }
    OutInTime x = Check.of(TOWN + "door A 0 1;");
    C.due("at first none: signed(12, 0)", x.signed(12, 0), 1);
    x.sign(0, 0);
    C.due("signed(12, 0)", x.signed(12, 0), 0);
    C.due("street NONE: none", x.sign(0, NONE), true);
    C.due("signed(12, 0)", x.signed(12, 0), 1);
    C.due("in a new object", new OutInTime().sign(7, NONE), true);
    C.due("in a new object", new OutInTime().sign(7, 0), false);
  }

  private static void signAsStreetsGoNow() {
    C.part("sign, change: a STREET that isn't from there, as it goes now");
    OutInTime x = Check.of("street A B 1 1;turns 0;");
    for (int turned = 0; turned <= 1; turned++) {
      x.turn(turned);
      C.due("sign(0, 0)", x.sign(0, 0), turned == 0);
      C.due("sign(1, 0)", x.sign(1, 0), turned == 1);
      C.due("change(0, 1, 0)", x.change(0, 1, 0), turned == 0);
      C.due("change(1, 1, 0)", x.change(1, 1, 0), turned == 1);
    }
  }

  private static void signedWhats() {
    C.part("signed: NONE for others");
    OutInTime x = Check.of("door A 0 9;door B 0 9;safe A 4;");
    for (int t : TIMES) {
      for (int what : PLACES) {
        int due = !isMinute(t) || what < NONE || what > 8 ? NONE : what == NONE ? 4 : what == 0 ? 5 : what == 1 ? 9 : 0;
        C.due("signed(" + t + ", " + what + ")", x.signed(t, what), due);
      }
    }
  }

  private static void comeAtTheDoorsMinute() {
    C.part("at minute t all from DOORS of that minute come to their PLACES");
    for (int door = 0; door <= 12; door++) {
      OutInTime x = Check.of("door H " + door + " 30;door H 12 1;");
      for (int t = 0; t <= 12; t++) {
        C.due("DOOR at " + door + ": signed(" + t + ", 7)", x.signed(t, 7), (t >= door ? 30 : 0) + (t == 12 ? 1 : 0));
        C.due("signed(" + t + ", 8)", x.signed(t, 8), 0);
        C.due("signed(" + t + ", -1)", x.signed(t, NONE), 0);
      }
    }
  }

  private static void goOutAsLongAsItTakes() {
    C.part("of who is in a SAFE PLACE as many as it still takes go out; of the others as many as may enter");
    for (int safe = 1; safe <= 9; safe++) {
      OutInTime x = Check.of("street A B 5 2;door A 0 4;door A 3 4;slow 1;safe A " + safe + ";");
      x.sign(0, 0);
      // who isn't out goes on by two, at 0 and 1, at 3 and 4
      for (int t = 0; t <= 4; t++) {
        int came = t < 3 ? 4 : 8;
        int out = Math.min(safe, came);
        C.due("takes " + safe + ": signed(" + t + ", -1)", x.signed(t, NONE), out);
        int left = Math.max(0, 4 - safe);
        int gone = Math.min(left, 2 * Math.min(t + 1, 3));
        int secondLeft = t < 3 ? 0 : 4 - (out - Math.min(safe, 4));
        gone += t < 3 ? 0 : Math.min(secondLeft, 2 * (t - 2));
        C.due("takes " + safe + ": signed(" + t + ", 8)", x.signed(t, 8), gone);
        C.due("takes " + safe + ": signed(" + t + ", 0)", x.signed(t, 0), came - out - gone);
      }
    }
  }

  private static void asManyAsMayEnter() {
    C.part("as many as may enter its SIGN's STREET");
    for (int width = 1; width <= 9; width++) {
      for (int people : new int[] {1, width, width + 1, 30}) {
        OutInTime x = Check.of("street A B 1 " + width + ";door A 0 " + people + ";slow 0;safe B 99;");
        x.sign(0, 0);
        for (int t = 0; t <= 12; t++) {
          C.due("signed(" + t + ", -1)", x.signed(t, NONE), Math.min(people, width * t));
          C.due("signed(" + t + ", 0)", x.signed(t, 0), Math.max(0, people - width * (t + 1)));
          C.due("signed(" + t + ", 8)", x.signed(t, 8), Math.min(width, Math.max(0, people - width * t)));
        }
      }
    }
  }

  private static void asFarAsItIsOpen() {
    C.part("as far as it is open");
    for (int from = 0; from <= 12; from++) {
      for (int till = from; till <= 12; till += 2) {
        OutInTime x = Check.of("street A B 1 1;open 0 " + from + " " + till + ";door A 0 30;");
        x.sign(0, 0);
        for (int t = 0; t <= 12; t++) {
          int gone = Math.max(0, Math.min(t, till) - from + 1);
          C.due(from + " .. " + till + ": signed(" + t + ", 0)", x.signed(t, 0), 30 - gone);
          C.due("signed(" + t + ", 8)", x.signed(t, 8), t >= from && t <= till ? 1 : 0);
        }
      }
    }
  }

  private static void onStreetsThen() {
    C.part("are on STREETS then (8); up to minute 12");
    for (int minutes = 1; minutes <= 5; minutes++) {
      for (int door = 0; door <= 12; door++) {
        OutInTime x = Check.of("street A B " + minutes + " 9;door A " + door + " 9;safe B 4;");
        x.sign(0, 0);
        for (int t = 0; t <= 12; t++) {
          boolean on = t >= door && t < door + minutes;
          boolean there = t >= door + minutes;
          C.due(minutes + " from " + door + ": signed(" + t + ", 8)", x.signed(t, 8), on ? 9 : 0);
          C.due("signed(" + t + ", 1)", x.signed(t, 1), there ? 5 : 0);
          C.due("signed(" + t + ", -1)", x.signed(t, NONE), there ? 4 : 0);
          C.due("signed(" + t + ", 0)", x.signed(t, 0), 0);
        }
      }
    }
  }

  private static void holdIsntAsked() {
    C.part("(hold isn't asked; SLOW people as any others)");
    OutInTime x = Check.of("hold A 0;hold B 0;street A B 1 2;door A 0 9;slow 0;");
    x.sign(0, 0);
    C.due("signed(0, 0)", x.signed(0, 0), 7);
    C.due("signed(1, 1)", x.signed(1, 1), 2);
    C.due("signed(12, 1)", x.signed(12, 1), 9);
    C.due("signs(-1)", x.signs(NONE), 0);
  }

  private static void changeMinutes() {
    C.part("change: from a minute on (1 .. 12). False for others, a STREET that isn't from there");
    for (int place : PLACES) {
      for (int street : STREETS) {
        OutInTime x = Check.of(TOWN);
        int told = 0;
        for (int minute : TIMES) {
          boolean can = isFrom(place, street) && minute >= 1 && minute <= 12;
          C.due("change(" + place + ", " + minute + ", " + street + ")", x.change(place, minute, street), can);
          told += can ? 1 : 0;
          C.due("about(6)", x.about(6), told);
        }
      }
    }
    for (int minute = 0; minute <= 13; minute++) {
      OutInTime x = Check.of("street A B 1 1;door A 0 30;");
      boolean can = minute >= 1 && minute <= 12;
      C.due("change(0, " + minute + ", 0)", x.change(0, minute, 0), can);
      for (int t = 0; t <= 12; t++) {
        C.due("signed(" + t + ", 8)", x.signed(t, 8), can && t >= minute ? 1 : 0);
      }
    }
  }

  private static void eightChanges() {
    C.part("CHANGES (8 at most); in place of one of that PLACE and minute");
    OutInTime x = Check.of(TOWN);
    for (int n = 0; n < 8; n++) {
      C.due("about(6)", x.about(6), n);
      C.due("told", x.change(n, 1 + n, NONE), true);
      C.due("told anew", x.change(n, 1 + n, NONE), true);
    }
    C.due("about(6)", x.about(6), 8);
    for (int place = 0; place < 8; place++) {
      for (int minute = 1; minute <= 12; minute++) {
        boolean there = minute == place + 1;
        C.due("a ninth, or anew: " + place + " at " + minute, x.change(place, minute, NONE), there);
        C.due("about(6)", x.about(6), 8);
      }
    }
    C.due("anew to a STREET", x.change(0, 1, 3), true);
    C.due("anew to a STREET that isn't from there", x.change(0, 1, 1), false);
    Check.read(x, TOWN);
    C.due("a new TOWN has none: about(6)", x.about(6), 0);
    C.due("so one can be", x.change(0, 12, 0), true);
  }

  private static void theLatestThatIsComeTo() {
    C.part("the latest minute that is come to counts");
    int[] minutes = {9, 2, 12, 5, 1, 7};
    int[] streets = {NONE, 3, 0, 0, NONE, 3};
    OutInTime x = Check.of(TOWN + "door A 0 30;");
    int[] goes = {0, NONE, 3, 3, 3, 0, 0, 3, 3, NONE, NONE, NONE, 0};
    x.sign(0, 0);
    for (int i = 0; i < 6; i++) {
      C.due("change", x.change(0, minutes[i], streets[i]), true);
    }
    int gone = 0;
    int byB = 0;
    for (int t = 0; t <= 12; t++) {
      C.due("signed(" + t + ", 1)", x.signed(t, 1), byB);
      byB += goes[t] == 0 ? 1 : 0;
      gone += goes[t] == NONE ? 0 : 1;
      C.due("signed(" + t + ", 0)", x.signed(t, 0), 30 - gone);
    }
    x.change(1, 3, 1);
    C.due("of its PLACE alone", x.signed(12, 0), 30 - gone);
    x.sign(0, NONE);
    C.due("the SIGN till the first of them: signed(0, 0)", x.signed(0, 0), 30);
    C.due("signed(12, 0)", x.signed(12, 0), 31 - gone);
  }

  private static void changedWhats() {
    C.part("changed: NONE for others");
    OutInTime x = Check.of("street A B 1 1;door A 0 1;safe B 1;");
    for (int what : new int[] {LOW, -2, -1, 0, 1, 2, 3, 4, 5, 6, HIGH}) {
      int due = what == 0 || what == 2 || what == 4 ? 0 : what == 1 ? 1 : what == 3 ? 11 : NONE;
      C.due("changed(" + what + ")", x.changed(what), due);
    }
  }

  private static void changedDue(OutInTime x, String when, int place, int minute, int street, int sum, int without) {
    int[] due = {place, minute, street, sum, without};
    for (int what = 0; what < 5; what++) {
      C.due(when + ": changed(" + what + ")", x.changed(what), due[what]);
    }
  }

  private static void changedOfLikeOnes() {
    C.part("BEST CHANGE: of like ones the first by PLACE, minute, STREET");
    OutInTime x = Check.of("street B C 1 1;street A C 1 1;street A C 1 1;door A 0 1;door B 0 1;safe C 9;");
    changedDue(x, "A ahead of B, the lower STREET", 0, 1, 1, 11, 0);
    x = Check.of("street A C 2 1;street A C 1 1;door A 4 1;safe C 9;");
    changedDue(x, "all minutes up to 4 are alike", 0, 1, 1, 8, 0);
    x = Check.of("street A C 1 1;open 0 12 12;street A C 1 1;open 1 11 11;door A 0 1;safe C 9;");
    changedDue(x, "at 12 it is in time for one out", 0, 1, 1, 1, 0);
    x = Check.of("street C H 1 1;street H G 1 1;door H 3 5;safe G 9;");
    changedDue(x, "of H, by STREET 1", 7, 1, 1, 1 + 2 + 3 + 4 + 5 * 5, 0);
    x.change(7, 4, NONE);
    changedDue(x, "of H, up to the next that is told", 7, 4, 1, 1 + 2 + 3 + 4 + 5 * 4, 0);
    x = Check.of("street B C 1 1;street F G 1 1;door B 0 1;door F 0 2;safe C 9;safe G 9;");
    changedDue(x, "two of F are more than one of B", 5, 1, 1, 21, 0);
    x.sign(5, 1);
    changedDue(x, "B's then", 1, 1, 0, 23 + 11, 23);
    x = Check.of("street A C 1 1;door A 0 5;safe C 9;");
    x.sign(0, 0);
    x.change(0, 1, NONE);
    changedDue(x, "a CHANGE at 1 in place of the one", 0, 1, 0, 10 + 9 + 8 + 11 + 12, 12);
    x.change(0, 1, 0);
    x.change(0, 3, NONE);
    changedDue(x, "at 3 in place of the one", 0, 3, 0, 50, 33);
    x.change(0, 4, NONE);
    changedDue(x, "at 4 it bars still", 0, 4, 0, 33 + 8 + 7, 33);
  }

  private static void changedNoneGreater() {
    C.part("BEST CHANGE: none, if by none it is greater than without");
    OutInTime x = Check.of("street A C 1 1;street A C 1 1;door A 0 1;safe C 9;");
    x.sign(0, 0);
    changedDue(x, "as good already", NONE, NONE, NONE, NONE, 12);
    x.sign(0, 1);
    changedDue(x, "a like one isn't greater", NONE, NONE, NONE, NONE, 12);
    x = Check.of("street A C 1 1;door A 12 1;safe C 9;");
    changedDue(x, "none can be out by 12", NONE, NONE, NONE, NONE, 0);
    x = Check.of("street A C 1 1;door A 11 1;safe C 9;");
    changedDue(x, "one can by 12", 0, 1, 0, 1, 0);
    x = Check.of("street A C 1 1;door A 0 1;");
    changedDue(x, "no SAFE PLACE", NONE, NONE, NONE, NONE, 0);
    changedDue(new OutInTime(), "no TOWN", NONE, NONE, NONE, NONE, 0);
    x = Check.of("door A 0 2;safe A 1;");
    changedDue(x, "no STREETS", NONE, NONE, NONE, NONE, 13);
    // a CHANGE is to a STREET: to none would be better here
    x = Check.of("street A B 5 9;door A 0 1;door A 1 1;safe A 1;street B C 1 1;");
    x.sign(0, 0);
    changedDue(x, "one is out at once", NONE, NONE, NONE, NONE, 13);
  }

  private static void changedNinth() {
    C.part("BEST CHANGE: a ninth CHANGE can't be");
    for (int n = 6; n <= 8; n++) {
      OutInTime x = Check.of("street A C 1 1;door A 0 1;safe C 9;");
      for (int i = 0; i < n; i++) {
        x.change(7, 5 + i, NONE);
      }
      C.due("about(6)", x.about(6), n);
      if (n < 8) {
        changedDue(x, n + " are told", 0, 1, 0, 11, 0);
      } else {
        changedDue(x, "8 are told", NONE, NONE, NONE, NONE, 0);
      }
    }
    // of 8 one can be told anew
    OutInTime x = Check.of("street A C 1 1;door A 0 1;safe C 9;");
    for (int minute = 5; minute <= 12; minute++) {
      x.change(0, minute, NONE);
    }
    changedDue(x, "in place of one of 8", 0, 5, 0, 7, 0);
  }

  private static void changedInPlace() {
    C.part("BEST CHANGE: in place of one that is told for these");
    OutInTime x = Check.of("street A C 5 1;street A C 1 1;door A 0 1;safe C 9;");
    x.change(0, 1, 0);
    changedDue(x, "the faster STREET at the same minute", 0, 1, 1, 11, 7);
    x.change(0, 1, NONE);
    x.change(0, 2, NONE);
    changedDue(x, "1 or 2 in place, 1 is better", 0, 1, 1, 11, 0);
    C.due("nothing is told by asking", x.about(6), 2);
  }

  private static void fallsWhats() {
    C.part("falls: of a STREET at a minute (0 .. 12). NONE for others");
    OutInTime x = Check.of(TOWN);
    for (int street : STREETS) {
      for (int minute : TIMES) {
        for (int what : new int[] {LOW, -1, 0, 1, 2, HIGH}) {
          boolean can = street >= 0 && street < 4 && isMinute(minute) && (what == 0 || what == 1);
          C.due("falls(" + street + ", " + minute + ", " + what + ")", x.falls(street, minute, what), can ? 0 : NONE);
        }
      }
      x = Check.of(TOWN);
    }
  }

  private static void fallsFromAMinuteOn() {
    C.part("FALLS: a STREET can't be entered from a minute m on; up to minute m - 1, from m on");
    // by 0 in one minute, by 1 in three; one enters each minute
    OutInTime x = Check.of("street A B 1 1;street A B 3 1;door A 0 30;safe B 99;");
    for (int m = 0; m <= 12; m++) {
      int known = 0;
      int late = 0;
      for (int t = 0; t <= 12; t++) {
        known += Math.min(t, m);
        late += Math.min(t, m) + Math.max(0, t - m - 2);
      }
      // all by 1: 1 + .. + 10
      C.due("falls(0, " + m + ", 0)", x.falls(0, m, 0), Math.max(known, 55));
      C.due("falls(0, " + m + ", 1)", x.falls(0, m, 1), late);
      C.due("the other: falls(1, " + m + ", 0)", x.falls(1, m, 0), 78);
      C.due("the other: falls(1, " + m + ", 1)", x.falls(1, m, 1), 78);
    }
    C.due("signs(-1)", x.signs(NONE), 78);
  }

  private static void fallsOfBothEnds() {
    C.part("FALLS: who is on the STREET ahead of m comes");
    for (int minutes = 1; minutes <= 5; minutes++) {
      OutInTime x = Check.of("street A B " + minutes + " 9;door A 3 9;safe B 99;");
      for (int m = 0; m <= 12; m++) {
        int sum = m > 3 ? 9 * (13 - 3 - minutes) : 0;
        C.due("falls(0, " + m + ", 0)", x.falls(0, m, 0), sum);
        C.due("falls(0, " + m + ", 1)", x.falls(0, m, 1), sum);
      }
    }
  }

  private static void ringPlaces() {
    C.part("ring: NONE for others");
    OutInTime x = Check.of(TOWN + "door A 12 1;");
    for (int street = 0; street < 3; street++) {
      x.sign(FROM[street], street);
    }
    for (int place : PLACES) {
      boolean in = place == 0 || place == 1 || place == 7;
      C.due("ring(" + place + ")", x.ring(place), !isPlace(place) ? NONE : in ? 1 : 0);
    }
  }

  private static void ringOfDoors() {
    C.part("RING: PLACES to which one comes again by SIGNS (without CHANGES) from a PLACE with a DOOR");
    String[] doors = {"", "door C 0 1;", "door D 0 1;", "door A 0 1;", "door B 0 1;"};
    for (int i = 0; i < doors.length; i++) {
      // D goes to A, A and B to one another; C goes nowhere
      OutInTime x = Check.of("street A B 1 1;street B A 1 1;street D A 1 1;street A C 1 1;safe A 1;hold B 0;" + doors[i]);
      x.sign(0, 0);
      x.sign(1, 1);
      x.sign(3, 2);
      for (int place = 0; place < 8; place++) {
        C.due(doors[i] + ": ring(" + place + ")", x.ring(place), i >= 2 && place < 2 ? 1 : 0);
      }
      x.change(0, 1, 3);
      C.due("without CHANGES: ring(0)", x.ring(0), i >= 2 ? 1 : 0);
      x.sign(0, 3);
      C.due("out of it: ring(0)", x.ring(0), 0);
      C.due("out of it: ring(1)", x.ring(1), 0);
    }
  }

  private static void ringSizes() {
    C.part("RING: of two PLACES, of eight, and of those behind a line");
    StringBuilder text = new StringBuilder();
    String names = "ABCDEFGH";
    for (int p = 0; p < 8; p++) {
      text.append("street " + names.charAt(p) + " " + names.charAt((p + 1) % 8) + " 1 1;");
    }
    for (int back = 0; back <= 6; back++) {
      // H goes to one of them in place of A
      OutInTime x = Check.of(text + "street H " + names.charAt(back) + " 1 1;door A 0 1;");
      for (int p = 0; p < 7; p++) {
        x.sign(p, p);
      }
      C.due("H has no SIGN: ring(7)", x.ring(7), 0);
      x.sign(7, 8);
      for (int p = 0; p < 8; p++) {
        C.due("back to " + back + ": ring(" + p + ")", x.ring(p), p >= back ? 1 : 0);
      }
    }
  }

  private static void signsWhats() {
    C.part("signs: NONE for others; (NONE: it has none)");
    OutInTime x = Check.of(TOWN + "door A 0 1;safe H 1;");
    // A goes to H in two minutes by 3, in two by 0 and 1
    int[] due = {0, 1, NONE, NONE, NONE, NONE, NONE, 2};
    for (int place : PLACES) {
      C.due("signs(" + place + ")", x.signs(place), place == NONE ? 11 : isPlace(place) ? due[place] : NONE);
    }
    x = Check.of("door A 0 2;safe A 1;");
    C.due("no STREETS: signs(-1)", x.signs(NONE), 13);
    C.due("signs(0)", x.signs(0), NONE);
  }

  private static void signsOfLikeOnes() {
    C.part("BEST SIGNS: of like ones the first, the first one's lowest STREETS first");
    OutInTime x = Check.of("street H G 1 1;street H F 1 1;street A C 1 1;street A B 1 1;");
    C.due("nobody: signs(-1)", x.signs(NONE), 0);
    C.due("signs(0)", x.signs(0), 2);
    C.due("signs(7)", x.signs(7), 0);
    // A's one goes out by C, or by B, if B goes to C
    x = Check.of("street A B 1 1;street A C 2 1;street B A 1 1;street B C 1 1;door A 0 1;safe C 1;");
    C.due("by B, or by C at once: signs(-1)", x.signs(NONE), 11);
    C.due("A's lowest ahead of B's: signs(0)", x.signs(0), 0);
    C.due("signs(1)", x.signs(1), 3);
    x = Check.of("street A C 2 1;street A B 1 1;street B A 1 1;street B C 1 1;door A 0 1;safe C 1;");
    C.due("signs(0)", x.signs(0), 0);
    C.due("signs(1)", x.signs(1), 2);
    x = Check.of("street B C 1 1;street B A 1 1;street A C 5 1;street A B 1 1;door A 0 1;safe C 1;");
    C.due("A's second and B's first: signs(-1)", x.signs(NONE), 11);
    C.due("signs(0)", x.signs(0), 3);
    C.due("signs(1)", x.signs(1), 0);
    x = Check.of("street A C 2 1;street A C 1 1;street A C 1 1;door A 0 1;safe C 1;");
    C.due("the lower of two better ones: signs(0)", x.signs(0), 1);
    C.due("signs(-1)", x.signs(NONE), 12);
    x.sign(0, 0);
    x.change(0, 1, 2);
    C.due("(without CHANGES) nor SIGNS: signs(0)", x.signs(0), 1);
    C.due("signs(-1)", x.signs(NONE), 12);
  }

  private static void mostChoices() {
    C.part("BEST SIGNS: 4096 at most: 16 STREETS have 324");
    String best = "street A G 1 9;street B G 1 9;street C G 1 9;street D G 1 9;";
    String others = "street A H1 1;street B H1 1;street C H1 1;street D H1 1;street A H1 1;street B H1 1;"
        + "street C H1 1;street D H1 1;";
    String two = "street E G1 9;street F H1 9;street E H1 1;street F G1 9;";
    String behind = "door A 0 3;door E 0 2;safe G 9;";
    OutInTime x = Check.of(best + others + two + behind);
    C.due("the first: signs(-1)", x.signs(NONE), 60);
    int[] first = {0, 1, 2, 3, 12, 13, NONE, NONE};
    for (int p = 0; p < 8; p++) {
      C.due("signs(" + p + ")", x.signs(p), first[p]);
    }
    x = Check.of(others + best + two.replace("street E G1 9;", "").replace("street E H1 1;", "street E H1 1;street E G1 9;") + behind);
    C.due("the last of A, of E: signs(-1)", x.signs(NONE), 60);
    int[] last = {8, 1, 2, 3, 14, 12, NONE, NONE};
    for (int p = 0; p < 8; p++) {
      C.due("signs(" + p + ")", x.signs(p), last[p]);
    }
    C.due("not above 4096: falls(8, 0, 0)", x.falls(8, 0, 0), 24);
    C.due("falls(8, 0, 1)", x.falls(8, 0, 1), 24);
    C.due("falls(14, 1, 1)", x.falls(14, 1, 1), 60);
  }
}
