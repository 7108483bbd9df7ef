/** Terms II, promises 8 to 14 and 20: who can be out by when, each bound on both its sides. */
public final class GoingBoundsTest {
  private static final Check C = new Check();
  private static final int NONE = OutInTime.NONE;
  private static final int LOW = Integer.MIN_VALUE;
  private static final int HIGH = Integer.MAX_VALUE;
  private static final int[] TIMES = {LOW, -13, -2, -1, 0, 1, 11, 12, 13, 14, 25, HIGH};

  public static void main(String[] args) {
    minutesFrom0To12();
    openAtAMinute();
    widthEachMinute();
    inItsOtherEnd();
    waitsAsThePlaceHolds();
    holdOfDoorsPlace();
    doorsFromTheirMinute();
    staysBehindTheDoor();
    safeTakesSoMany();
    outsAtOneMinute();
    cutUpToT();
    cutOfDoors();
    cutByWhatIsntFull();
    cutGivesWay();
    cutOfOuts();
    quickLeast();
    bestSumOneWay();
    twoQuarrel();
    quarrelsInOrder();
    quarrelsAtTheEnds();
    quarrelWhats();
    turnSets();
    signsOfTurned();
    bestTurn();
    bestTurnOfMany();
    bestTurnOfFive();
    wider();
    widerTen();
    kindsMinutesAndOne();
    kindsHalfWidth();
    kindsLesser();
    C.finish();
  }

  private static boolean isMinute(int t) {
    return t >= 0 && t <= 12;
  }

  private static void minutesFrom0To12() {
    C.part("MOST by t (0 .. 12). NONE for others");
    OutInTime x = Check.of("door A 0 5;safe A 4;");
    for (int t : TIMES) {
      int due = isMinute(t) ? 4 : NONE;
      C.due("most(" + t + ")", x.most(t), due);
      C.due("kinds(" + t + ", 0)", x.kinds(t, 0), due);
      C.due("kinds(" + t + ", 1)", x.kinds(t, 1), isMinute(t) ? 0 : NONE);
      C.due("kinds(" + t + ", 2)", x.kinds(t, 2), due);
      C.due("all(" + t + ", 0)", x.all(t, 0), isMinute(t) ? 4 * (t + 1) : NONE);
      C.due("all(" + t + ", 1)", x.all(t, 1), isMinute(t) ? 1 : NONE);
      C.due("cut(" + t + ", 0, 0)", x.cut(t, 0, 0), isMinute(t) ? 1 : NONE);
    }
    for (int what : new int[] {LOW, -1, 0, 1, 2, 3, 4, HIGH}) {
      C.due("kinds(0, " + what + ")", x.kinds(0, what) != NONE, what >= 0 && what < 3);
      C.due("all(0, " + what + ")", x.all(0, what) != NONE, what >= 0 && what < 2);
    }
  }

  private static void openAtAMinute() {
    C.part("can enter a STREET from it that is open at t");
    for (int from = 0; from <= 12; from++) {
      for (int till = from; till <= 12; till++) {
        OutInTime x = Check.of("street A B 1 3;open 0 " + from + " " + till + ";door A 0 30;safe B 99;");
        for (int t = 0; t <= 12; t++) {
          int minutes = Math.max(0, Math.min(till, t - 1) - from + 1);
          C.due(from + " .. " + till + ": most(" + t + ")", x.most(t), Math.min(30, 3 * minutes));
        }
      }
    }
  }

  private static void widthEachMinute() {
    C.part("WIDTH at most each minute");
    for (int width = 1; width <= 9; width++) {
      for (int people : new int[] {width - 1, width, width + 1, 30}) {
        if (people > 0) {
          OutInTime x = Check.of("street A B 1 " + width + ";door A 0 " + people + ";safe B 99;");
          for (int t = 0; t <= 12; t++) {
            C.due(width + " of " + people + ": most(" + t + ")", x.most(t), Math.min(people, width * t));
          }
        }
      }
    }
  }

  private static void inItsOtherEnd() {
    C.part("it is in its other end at t + MINUTES; MINUTES 0 .. 12");
    for (int minutes = 1; minutes <= 5; minutes++) {
      for (int door = 0; door <= 12; door++) {
        OutInTime x = Check.of("street A B " + minutes + " 9;door A " + door + " 9;safe B 99;");
        int comes = door + minutes;
        for (int t = 0; t <= 12; t++) {
          C.due(minutes + " from " + door + ": most(" + t + ")", x.most(t), t >= comes ? 9 : 0);
          C.due(minutes + " from " + door + ": cut(" + t + ", 0, " + t + ")", x.cut(t, 0, t), t >= door && t < comes ? 1 : 0);
          C.due("all(" + t + ", 0)", x.all(t, 0), 9 * Math.max(0, t - comes + 1));
        }
        C.due("quick()", x.quick(), comes <= 12 ? comes : NONE);
        C.due("turned(1)", x.turned(1), comes <= 12 ? comes : NONE);
      }
    }
  }

  private static void waitsAsThePlaceHolds() {
    C.part("Or it waits there till t + 1 (so many as the PLACE holds)");
    for (int hold = 0; hold <= 10; hold++) {
      String town = "street A B 1 9;open 0 0 0;street B C 1 9;door A 0 9;safe C 99;hold B " + hold + ";";
      OutInTime x = Check.of(town + "open 1 2 2;");
      C.due("waits from 1 to 2: most(3)", x.most(3), Math.min(9, hold));
      C.due("most(2)", x.most(2), 0);
      x = Check.of(town + "open 1 12 12;");
      C.due("never comes", x.most(12), 0);
      x = Check.of(town + "open 1 11 11;");
      C.due("waits from 1 to 11", x.most(12), Math.min(9, hold));
      x = Check.of(town + "open 1 1 1;");
      C.due("does not wait", x.most(12), 9);
    }
    OutInTime x = Check.of("street A B 1 9;open 0 0 0;street B C 1 9;open 1 2 2;door A 0 9;safe C 99;");
    C.due("without, 99", x.most(12), 9);
  }

  private static void holdOfDoorsPlace() {
    C.part("so many as the PLACE holds: who goes out or on at once does not wait");
    OutInTime x = Check.of("hold A 0;door A 3 30;safe A 99;");
    C.due("most(2)", x.most(2), 0);
    C.due("most(3)", x.most(3), 30);
    x = Check.of("hold B 0;street A B 1 9;street B C 1 9;door A 0 30;safe C 99;");
    C.due("most(2)", x.most(2), 9);
    C.due("most(5)", x.most(5), 30);
    x = Check.of("hold B 0;street A B 1 9;street B C 1 4;door A 0 30;safe C 99;");
    C.due("only who can go on comes", x.most(5), 16);
  }

  private static void doorsFromTheirMinute() {
    C.part("Who is behind a DOOR can come to its PLACE at any minute from its own on");
    for (int minute = 0; minute <= 12; minute++) {
      OutInTime x = Check.of("door A " + minute + " 30;door A 12 1;safe A 99;");
      for (int t = 0; t <= 12; t++) {
        int due = (t >= minute ? 30 : 0) + (t == 12 ? 1 : 0);
        C.due("door at " + minute + ": most(" + t + ")", x.most(t), due);
      }
      C.due("quick()", x.quick(), 12);
    }
  }

  private static void staysBehindTheDoor() {
    C.part("(or stay behind it)");
    OutInTime x = Check.of("hold A 0;street A B 1 9;open 0 9 9;street A C 1 9;open 1 11 11;door A 2 19;safe B 9;safe C 99;");
    C.due("most(9)", x.most(9), 0);
    C.due("from 2 to 9 behind it: most(10)", x.most(10), 9);
    C.due("from 2 to 11 behind it: most(12)", x.most(12), 18);
    C.due("one stays", x.quick(), NONE);
  }

  private static void safeTakesSoMany() {
    C.part("can go out at that minute, as long as it takes so many in all");
    for (int safe = 1; safe <= 12; safe++) {
      OutInTime x = Check.of("door A 0 4;door A 5 3;door A 12 4;safe A " + safe + ";");
      for (int t = 0; t <= 12; t++) {
        int there = t < 5 ? 4 : t < 12 ? 7 : 11;
        C.due("takes " + safe + ": most(" + t + ")", x.most(t), Math.min(safe, there));
      }
      C.due("quick()", x.quick(), safe >= 11 ? 12 : NONE);
    }
    OutInTime x = Check.of("door A 0 30;door A 0 30;door A 0 30;door A 0 9;safe A 99;");
    C.due("99 at once", x.most(0), 99);
    C.due("quick()", x.quick(), 0);
    C.due("all(12, 0)", x.all(12, 0), 99 * 13);
    x = Check.of("door A 0 30;door A 0 30;door A 0 30;door A 0 9;safe A 98;");
    C.due("98 at once", x.most(0), 98);
    C.due("quick()", x.quick(), NONE);
  }

  private static void outsAtOneMinute() {
    C.part("MOST by t: out at minutes 0 .. t");
    OutInTime x = Check.of("street A B 1 1;door A 0 2;door B 12 1;safe B 3;");
    int[] due = {0, 1, 2, 2, 2, 2, 2, 2, 2, 2, 2, 2, 3};
    int sum = 0;
    for (int t = 0; t <= 12; t++) {
      sum += due[t];
      C.due("most(" + t + ")", x.most(t), due[t]);
      C.due("all(" + t + ", 0)", x.all(t, 0), sum);
      C.due("all(" + t + ", 1)", x.all(t, 1), 1);
    }
  }

  private static void cutUpToT() {
    C.part("Whether a PLACE at a minute (0 .. t) is in THE CUT of t. NONE for others");
    OutInTime x = Check.of("door A 0 1;");
    for (int t : TIMES) {
      for (int minute : TIMES) {
        for (int place : new int[] {LOW, -1, 0, 7, 8, HIGH}) {
          boolean can = isMinute(t) && minute >= 0 && minute <= t && place >= 0 && place <= 7;
          int due = !can ? NONE : place == 0 ? 1 : 0;
          C.due("cut(" + t + ", " + place + ", " + minute + ")", x.cut(t, place, minute), due);
        }
      }
    }
  }

  private static void cutOfDoors() {
    C.part("from a DOOR with someone left");
    OutInTime x = Check.of("door A 0 5;safe A 5;door B 3 1;");
    for (int t = 0; t <= 12; t++) {
      for (int minute = 0; minute <= t; minute++) {
        C.due("none left: cut(" + t + ", 0, " + minute + ")", x.cut(t, 0, minute), 0);
        C.due("its minute: cut(" + t + ", 1, " + minute + ")", x.cut(t, 1, minute), minute >= 3 ? 1 : 0);
      }
    }
    x = Check.of("door A 0 5;safe A 4;");
    C.due("one left: cut(0, 0, 0)", x.cut(0, 0, 0), 1);
    x = Check.of("street A B 1 1;door A 0 2;safe B 2;");
    C.due("by 1 one is left: cut(1, 0, 0)", x.cut(1, 0, 0), 1);
    C.due("by 1 one is left: cut(1, 0, 1)", x.cut(1, 0, 1), 1);
    C.due("by 2 none is: cut(2, 0, 0)", x.cut(2, 0, 0), 0);
    C.due("cut(2, 0, 2)", x.cut(2, 0, 2), 0);
  }

  private static void cutByWhatIsntFull() {
    C.part("by what isn't full");
    for (int people = 1; people <= 4; people++) {
      // one street of 2 at minute 0 alone: with more than 2 people it is full
      OutInTime x = Check.of("street A B 1 2;open 0 0 0;door A 0 " + people + ";safe B 9;");
      C.due(people + " people: cut(12, 0, 0)", x.cut(12, 0, 0), people > 2 ? 1 : 0);
      C.due("full: cut(12, 1, 1)", x.cut(12, 1, 1), 0);
    }
    for (int hold = 0; hold <= 2; hold++) {
      OutInTime x = Check.of("street A B 1 2;open 0 0 0;hold B " + hold + ";door A 0 2;");
      C.due("cut(12, 1, 0)", x.cut(12, 1, 0), 0);
      C.due("cut(12, 1, 1)", x.cut(12, 1, 1), 1);
      C.due("waiting in B: cut(12, 1, 2)", x.cut(12, 1, 2), hold > 0 ? 1 : 0);
      C.due("waiting in B: cut(12, 1, 12)", x.cut(12, 1, 12), hold > 0 ? 1 : 0);
      C.due("not open any more", x.cut(12, 0, 12), 1);
    }
    // all that B holds go on at 2; what isn't full is the street to B alone
    OutInTime x = Check.of("street A B 1 3;open 0 0 0;hold B 2;street B C 1 9;open 1 2 2;door A 0 9;safe C 9;");
    C.due("most(12)", x.most(12), 2);
    C.due("cut(12, 1, 1)", x.cut(12, 1, 1), 1);
    C.due("cut(12, 1, 2)", x.cut(12, 1, 2), 0);
    C.due("cut(12, 2, 3)", x.cut(12, 2, 3), 0);
    C.due("cut(2, 1, 2): of 2 none is out", x.cut(2, 1, 2), 1);
  }

  private static void cutGivesWay() {
    C.part("who can give way to them gives way: back along what somebody goes");
    // who goes from A by B gives way to one from C, by another street from A
    OutInTime x = Check.of("street A B 1 1;open 0 0 0;street C B 1 1;open 1 0 0;street B D 1 1;open 2 1 1;"
        + "street A E 1 1;door A 0 1;door C 0 2;safe D 9;");
    C.due("most(12)", x.most(12), 1);
    C.due("cut(12, 2, 0)", x.cut(12, 2, 0), 1);
    C.due("cut(12, 1, 1)", x.cut(12, 1, 1), 1);
    C.due("cut(12, 0, 0)", x.cut(12, 0, 0), 1);
    C.due("cut(12, 4, 1)", x.cut(12, 4, 1), 1);
    C.due("cut(12, 3, 2)", x.cut(12, 3, 2), 0);
    // by minute 1 nobody is out, so nobody gives way
    C.due("cut(1, 1, 1)", x.cut(1, 1, 1), 1);
    C.due("cut(1, 3, 1)", x.cut(1, 3, 1), 0);
    C.due("cut(1, 4, 1)", x.cut(1, 4, 1), 1);
  }

  private static void cutOfOuts() {
    C.part("SAFE PLACES' outs told among it, up to minute t");
    // C takes one: who comes at 1 from B stands for who could come at 3 from A
    OutInTime x = Check.of("street A C 3 1;open 0 0 0;street B C 1 1;open 1 0 0;door A 0 1;door B 0 1;safe C 1;");
    C.due("most(0)", x.most(0), 0);
    C.due("most(1)", x.most(1), 1);
    C.due("most(3)", x.most(3), 1);
    C.due("by 2 A's is left: cut(2, 0, 0)", x.cut(2, 0, 0), 1);
    C.due("cut(2, 2, 1)", x.cut(2, 2, 1), 0);
    C.due("cut(2, 1, 0)", x.cut(2, 1, 0), 0);
    C.due("A's comes at 3: cut(3, 2, 3)", x.cut(3, 2, 3), 1);
    C.due("who was out at 1 gives way: cut(3, 2, 1)", x.cut(3, 2, 1), 1);
    C.due("cut(3, 1, 0)", x.cut(3, 1, 0), 1);
    C.due("cut(3, 2, 0)", x.cut(3, 2, 0), 0);
    C.due("cut(3, 2, 2): waiting from 1 on", x.cut(3, 2, 2), 1);
    C.due("cut(12, 2, 12)", x.cut(12, 2, 12), 1);
  }

  private static void quickLeast() {
    C.part("QUICK. NONE: not by 12");
    for (int safe = 1; safe <= 6; safe++) {
      OutInTime x = Check.of("door A 0 2;door A 7 2;door A 12 1;safe A " + safe + ";");
      C.due("takes " + safe, x.quick(), safe < 5 ? NONE : 12);
      x = Check.of("door A 0 2;door A 7 2;safe A " + safe + ";");
      C.due("takes " + safe, x.quick(), safe < 4 ? NONE : 7);
      x = Check.of("door A 0 2;safe A " + safe + ";");
      C.due("takes " + safe, x.quick(), safe < 2 ? NONE : 0);
    }
    for (int people = 1; people <= 30; people++) {
      OutInTime x = Check.of("street A B 1 2;door A 0 " + people + ";safe B 99;");
      C.due(people + " by two a minute", x.quick(), people <= 24 ? (people + 1) / 2 : NONE);
    }
    C.due("nobody", Check.of("street A B 1 2;safe B 9;").quick(), 0);
    C.due("no SAFE PLACE", Check.of("street A B 1 2;door A 0 1;").quick(), NONE);
  }

  private static void bestSumOneWay() {
    C.part("BEST SUM up to t; ONE way is best for all minutes, if it is the sum of MOST by 0, .. by t");
    for (int safe = 1; safe <= 3; safe++) {
      OutInTime x = Check.of("door A 0 1;door A 1 1;safe A " + safe + ";");
      int sum = 0;
      for (int t = 0; t <= 12; t++) {
        sum += Math.min(safe, t == 0 ? 1 : 2);
        C.due("all(" + t + ", 0)", x.all(t, 0), sum);
        C.due("all(" + t + ", 1)", x.all(t, 1), 1);
        C.due("all(" + t + ", 2)", x.all(t, 2), NONE);
        C.due("all(" + t + ", 3)", x.all(t, 3), NONE);
      }
    }
  }

  /** C takes one, D another: to be out soonest A's one must take the place of B's. */
  private static String quarrel(int soon, int far, int late) {
    return "street A C " + soon + " 1;street A D " + far + " 1;street B C " + late + " 1;"
        + "door A 0 1;door B 0 1;safe C 1;safe D 1;";
  }

  private static void twoQuarrel() {
    C.part("TWO QUARREL: t1 < t2, if no way has MOST by t1 out by t1 and MOST by t2 by t2");
    for (int soon = 1; soon <= 4; soon++) {
      for (int far = soon; far <= 5; far++) {
        for (int late = soon; late <= 5; late++) {
          OutInTime x = Check.of(quarrel(soon, far, late));
          int both = Math.max(far, late);
          boolean can = late > soon && far > soon;
          for (int t = 0; t <= 12; t++) {
            C.due("most(" + t + ")", x.most(t), t < soon ? 0 : t < both ? 1 : 2);
            boolean one = !can || t < both;
            C.due(soon + " " + far + " " + late + ": all(" + t + ", 1)", x.all(t, 1), one ? 1 : 0);
            C.due(soon + " " + far + " " + late + ": all(" + t + ", 2)", x.all(t, 2), one ? NONE : soon);
            C.due(soon + " " + far + " " + late + ": all(" + t + ", 3)", x.all(t, 3), one ? NONE : both);
          }
        }
      }
    }
  }

  private static void quarrelsInOrder() {
    C.part("the first by t1, then t2, of those up to t");
    // E F G beside A C D, their quarrel later: 1 with 3 first, though 2 quarrels with 3 too
    String early = "street A C 1 1;street A D 4 1;street B C 2 1;door A 0 1;door B 0 1;safe C 1;safe D 1;";
    String later = "street E F 2 1;street E G 3 1;street H F 3 1;door E 0 1;door H 0 1;safe F 1;safe G 1;";
    OutInTime x = Check.of(early + later);
    C.due("up to 2: none", x.all(2, 2), NONE);
    C.due("up to 3: first", x.all(3, 2), 2);
    C.due("up to 3: second", x.all(3, 3), 3);
    C.due("up to 4: first", x.all(4, 2), 1);
    C.due("up to 4: second", x.all(4, 3), 4);
    C.due("asked again up to 3: first", x.all(3, 2), 2);
    C.due("up to 12: second", x.all(12, 3), 4);
    // one t1, two t2
    x = Check.of("street A C 1 2;street A D 3 1;open 1 0 0;street A E 5 1;open 2 0 0;street B C 2 2;"
        + "door A 0 2;door B 0 2;safe C 2;safe D 1;safe E 1;");
    C.due("most(1)", x.most(1), 2);
    C.due("most(3)", x.most(3), 3);
    C.due("most(5)", x.most(5), 4);
    C.due("up to 5: first", x.all(5, 2), 1);
    C.due("up to 5: second", x.all(5, 3), 3);
  }

  private static void quarrelsAtTheEnds() {
    C.part("TWO QUARREL: of minutes 0 .. 12");
    // A takes one: A's own at 0, or B's later, A's then by D
    for (int minutes = 1; minutes <= 4; minutes++) {
      for (int door = 0; door <= 12 - minutes; door += 2) {
        OutInTime x = Check.of("street A D 1 1;street B A " + minutes + " 1;door A 0 1;door B " + door
            + " 1;safe A 1;safe D 1;open 0 0 0;");
        int both = Math.max(1, door + minutes);
        for (int t = 0; t <= 12; t++) {
          C.due("most(" + t + ")", x.most(t), t < both ? 1 : 2);
          C.due(both + ": all(" + t + ", 1)", x.all(t, 1), t < both ? 1 : 0);
          C.due(both + ": all(" + t + ", 2)", x.all(t, 2), t < both ? NONE : 0);
          C.due(both + ": all(" + t + ", 3)", x.all(t, 3), t < both ? NONE : both);
          // A's own at 0, or at 1 by D
          int sum = Math.max(t + 1, t + Math.max(0, t - both + 1));
          C.due(both + ": all(" + t + ", 0)", x.all(t, 0), sum);
        }
      }
    }
    // 11 with 12 first: C takes one, who comes at 11 by A, or at 12 by B
    OutInTime x = Check.of("street A C 1 1;street A D 2 1;street B C 2 1;door A 10 1;door B 10 1;safe C 1;safe D 1;");
    C.due("up to 11: none", x.all(11, 2), NONE);
    C.due("up to 12: first", x.all(12, 2), 11);
    C.due("up to 12: second", x.all(12, 3), 12);
    C.due("up to 12: one", x.all(12, 1), 0);
    C.due("up to 12: sum", x.all(12, 0), 2);
  }

  private static void quarrelWhats() {
    C.part("all: NONE for others");
    OutInTime x = Check.of(quarrel(1, 3, 2));
    int[] due = {NONE, 5, 0, 1, 3, NONE, NONE};
    for (int what = -1; what <= 5; what++) {
      C.due("all(4, " + what + ")", x.all(4, what), due[what + 1]);
    }
    C.due("all(4, LOW)", x.all(4, LOW), NONE);
    C.due("all(4, HIGH)", x.all(4, HIGH), NONE);
    for (int t : TIMES) {
      for (int what = 0; what < 4 && !isMinute(t); what++) {
        C.due("all(" + t + ", " + what + ")", x.all(t, what), NONE);
      }
    }
  }

  private static void turnSets() {
    C.part("turn: False for others (of STREETS that aren't there, or may not be)");
    StringBuilder text = new StringBuilder();
    for (int i = 0; i < 16; i++) {
      text.append("street A B1 1;");
    }
    text.append("turns 15;turns 0;turns 3;");
    int may = 1 << 15 | 1 << 3 | 1;
    OutInTime x = Check.of(text.toString());
    for (int bit = 0; bit < 32; bit++) {
      for (int with : new int[] {0, 1, 8, 32768, may}) {
        int set = 1 << bit | with;
        boolean can = (set & ~may) == 0;
        x.turn(0);
        C.due("turn(" + set + ")", x.turn(set), can);
        C.due("street(15, 7)", x.street(15, 7), can && (set & 32768) != 0 ? 1 : 0);
        C.due("street(0, 0)", x.street(0, 0), can && (set & 1) != 0 ? 1 : 0);
      }
      x = Check.of(text.toString());
    }
    C.due("turn(-1)", x.turn(-1), false);
    C.due("turn(HIGH)", x.turn(HIGH), false);
    C.due("turn(65535)", x.turn(65535), false);
    C.due("all that may", x.turn(may), true);
    C.due("street(3, 7)", x.street(3, 7), 1);
    C.due("none of them", x.turn(0), true);
    C.due("street(3, 7)", x.street(3, 7), 0);
    C.due("one that may not be: turn(2)", Check.of("street A B 1 1;street A B 1 1;turns 0;").turn(2), false);
    C.due("one that isn't there: turn(4)", Check.of("street A B 1 1;street A B 1 1;turns 1;").turn(4), false);
  }

  private static void signsOfTurned() {
    C.part("SIGNS and CHANGES to a STREET whose way changes are none then: a CHANGE to none stays");
    String text = "street A B 1 1;turns 0;street A B 1 1;door A 0 1;safe B 9;";
    for (int street = 0; street <= 1; street++) {
      OutInTime x = Check.of(text);
      x.sign(0, street);
      C.due("turned as it was", x.turn(0), true);
      C.due("the sign stays", x.signed(1, NONE), 1);
      x.turn(1);
      C.due("signed(1, -1)", x.signed(1, NONE), street);
      x.turn(0);
      C.due("turned back", x.signed(1, NONE), street);

      x = Check.of(text);
      x.change(0, 2, street);
      x.turn(1);
      C.due("about(6)", x.about(6), 1);
      C.due("signed(3, -1)", x.signed(3, NONE), street);
      x.sign(0, 1);
      C.due("the sign till 1", x.signed(12, NONE), 1);
      x.sign(0, NONE);
      x.turn(0);
      C.due("signed(3, -1), turned back", x.signed(3, NONE), street);
      C.due("about(6), turned back", x.about(6), 1);
    }
    OutInTime x = Check.of("street A B 1 1;turns 0;door A 3 1;safe B 9;");
    x.change(0, 2, 0);
    x.turn(1);
    x.turn(0);
    x.sign(0, 0);
    C.due("the CHANGE to none counts from 2 on", x.signed(12, NONE), 0);
    C.due("in place of it", x.change(0, 2, 0), true);
    C.due("about(6)", x.about(6), 1);
    C.due("signed(12, -1)", x.signed(12, NONE), 1);
    x = Check.of("street A B 1 1;turns 0;door A 0 1;safe B 9;");
    x.enter(0, 0, 1);
    C.due("a WAY told: judged(11)", x.judged(11), 1);
    x.turn(1);
    C.due("stays as it is: judged(3)", x.judged(3), 1);
    C.due("from B now: judged(0)", x.judged(0), 2);
    C.due("judged(2)", x.judged(2), 1);
    x.turn(0);
    C.due("judged(11)", x.judged(11), 1);
  }

  private static void bestTurn() {
    C.part("BEST TURN: none that is: worse than any; of like ones the lowest set as a number");
    OutInTime x = Check.of("street A B 1 1;turns 0;street C D 1 1;turns 1;door A 0 1;safe B 1;");
    C.due("as it is told is like 2: turned(0)", x.turned(0), 0);
    C.due("turned(1)", x.turned(1), 1);
    x = Check.of("street B A 1 1;turns 0;street C D 1 1;turns 1;door A 0 1;safe B 1;");
    C.due("1 is like 3: turned(0)", x.turned(0), 1);
    x = Check.of("street C D 1 1;turns 0;street B A 1 1;turns 1;door A 0 1;safe B 1;");
    C.due("2 is like 3: turned(0)", x.turned(0), 2);
    x = Check.of("street B A 1 1;street B A 1 1;turns 1;door A 12 1;safe B 1;");
    C.due("at 13 it is none by any: turned(0)", x.turned(0), 0);
    C.due("turned(1)", x.turned(1), NONE);
    x = Check.of("street B A 1 1;street B A 1 1;turns 1;door A 11 1;safe B 1;");
    C.due("at 12 it is better than none: turned(0)", x.turned(0), 2);
    C.due("turned(1)", x.turned(1), 12);
    x = Check.of("street B A 2 1;turns 0;street B A 2 1;turns 1;street B A 1 1;turns 2;door A 0 1;safe B 2;");
    C.due("2 by 1, 2 or 3, 1 by 4 and by any with it: turned(0)", x.turned(0), 4);
    C.due("turned(1)", x.turned(1), 1);
    x = Check.of("street B A 2 1;turns 0;street B A 2 1;turns 1;street B A 1 1;turns 2;door A 0 2;safe B 2;");
    C.due("2 by 3 and by 4: turned(0)", x.turned(0), 3);
    C.due("turned(1)", x.turned(1), 2);
    for (int what : new int[] {LOW, -1, 2, HIGH}) {
      C.due("turned(" + what + ")", x.turned(what), NONE);
    }
    C.due("none may: turned(0)", Check.of("street B A 1 1;door A 0 1;safe B 1;").turned(0), 0);
    C.due("none may: turned(1)", Check.of("street B A 1 1;door A 0 1;safe B 1;").turned(1), NONE);
    C.due("nobody: turned(1)", Check.of("street B A 1 1;turns 0;").turned(1), 0);
  }

  private static void bestTurnOfMany() {
    C.part("BEST TURN: QUICK of people who come out one behind the other");
    for (int people = 1; people <= 30; people++) {
      OutInTime x = Check.of("street A B 1 2;street B A 1 1;turns 1;street A B 5 9;turns 2;door A 0 " + people + ";safe B 30;");
      int told = NONE;
      int turned = NONE;
      for (int t = 12; t >= 0; t--) {
        int far = t >= 5 ? 9 * (t - 4) : 0;
        told = 2 * t + far >= people ? t : told;
        turned = 3 * t + far >= people ? t : turned;
      }
      C.due(people + ": quick()", x.quick(), told);
      C.due(people + ": turned(1)", x.turned(1), turned);
      C.due(people + ": turned(0)", x.turned(0), turned < told ? 2 : 0);
    }
  }

  private static void bestTurnOfFive() {
    C.part("BEST TURN of 5 STREETS");
    StringBuilder text = new StringBuilder();
    String line = "ABCDEF";
    for (int i = 0; i < 5; i++) {
      text.append("street " + line.charAt(i + 1) + " " + line.charAt(i) + " 1 1;turns " + i + ";");
    }
    OutInTime x = Check.of(text + "door A 0 1;safe F 1;");
    C.due("all of them: turned(0)", x.turned(0), 31);
    C.due("turned(1)", x.turned(1), 5);
    x = Check.of("street A B 1 1;" + text.toString().replace("turns 4", "turns 5").replace("turns 3", "turns 4")
        .replace("turns 2", "turns 3").replace("turns 1", "turns 2").replace("turns 0", "turns 1") + "door B 0 1;safe F 1;");
    C.due("a set of higher numbers: turned(0)", x.turned(0), 60);
    C.due("turned(1)", x.turned(1), 4);
  }

  private static void wider() {
    C.part("WIDER: MOST by t grows most; of like ones the lowest; none, if by none it grows");
    OutInTime x = Check.of("street A B 1 1;street A B 1 1;street C D 1 1;door A 0 9;door C 3 3;safe B 99;safe D 99;");
    for (int t : TIMES) {
      // A's 9 go by two streets, one more each minute from 0 to t - 1; all are out by 5
      int grows = isMinute(t) ? Math.min(9, 3 * t) - Math.min(9, 2 * t) : 0;
      int other = t == 4 ? 1 : t == 5 ? 1 : 0;
      int street = grows > 0 && grows >= other ? 0 : other > 0 ? 2 : NONE;
      C.due("wider(" + t + ", 0)", x.wider(t, 0), street);
      C.due("wider(" + t + ", 1)", x.wider(t, 1), street == NONE ? NONE : Math.max(grows, other));
    }
    C.due("of C's one more by 5: wider(5, 0)", x.wider(5, 0), 2);
    C.due("wider(5, 1)", x.wider(5, 1), 1);
    C.due("by 4 of like ones the lowest: wider(4, 0)", x.wider(4, 0), 0);
    for (int what : new int[] {LOW, -1, 2, 3, HIGH}) {
      C.due("wider(3, " + what + ")", x.wider(3, what), NONE);
    }
    C.due("all are out: wider(12, 0)", x.wider(12, 0), NONE);
    C.due("all are out: wider(12, 1)", x.wider(12, 1), NONE);
    C.due("no STREETS", Check.of("door A 0 9;safe A 1;").wider(12, 0), NONE);
    C.due("no STREETS", Check.of("door A 0 9;safe A 1;").wider(12, 1), NONE);
  }

  private static void widerTen() {
    C.part("WIDER: WIDTH being one more (10 can be)");
    for (int width = 1; width <= 9; width++) {
      OutInTime x = Check.of("street A B 1 " + width + ";door A 0 30;safe B 99;");
      for (int t = 0; t <= 3; t++) {
        int more = Math.min(30, (width + 1) * t) - Math.min(30, width * t);
        C.due(width + ": wider(" + t + ", 1)", x.wider(t, 1), more > 0 ? more : NONE);
        C.due(width + ": wider(" + t + ", 0)", x.wider(t, 0), more > 0 ? 0 : NONE);
      }
      C.due("it stays as wide", x.street(0, 3), width);
      C.due("most(1)", x.most(1), width);
    }
  }

  private static void kindsMinutesAndOne() {
    C.part("kinds: SLOW ones alone (by MINUTES and one)");
    for (int minutes = 1; minutes <= 5; minutes++) {
      for (int door = 0; door <= 12; door++) {
        OutInTime x = Check.of("street A B " + minutes + " 4;door A " + door + " 2;slow 0;safe B 9;");
        for (int t = 0; t <= 12; t++) {
          C.due(minutes + " from " + door + ": kinds(" + t + ", 1)", x.kinds(t, 1), t >= door + minutes + 1 ? 2 : 0);
          C.due("none that aren't SLOW: kinds(" + t + ", 0)", x.kinds(t, 0), 0);
          C.due("as any others: most(" + t + ")", x.most(t), t >= door + minutes ? 2 : 0);
        }
      }
    }
    OutInTime x = Check.of("door A 3 2;slow 0;safe A 1;");
    C.due("without a STREET none is longer: kinds(3, 1)", x.kinds(3, 1), 1);
    C.due("kinds(2, 1)", x.kinds(2, 1), 0);
  }

  private static void kindsHalfWidth() {
    C.part("kinds: SLOW ones alone (WIDTH / 2, cut)");
    for (int width = 1; width <= 9; width++) {
      OutInTime x = Check.of("street A B 1 " + width + ";door A 0 30;slow 0;safe B 99;");
      for (int t = 1; t <= 12; t++) {
        C.due(width + ": kinds(" + t + ", 1)", x.kinds(t, 1), Math.min(30, width / 2 * (t - 1)));
      }
      x = Check.of("street A B 1 " + width + ";door A 0 30;safe B 99;");
      C.due("those who aren't SLOW: kinds(1, 0)", x.kinds(1, 0), width);
      C.due("kinds(1, 1)", x.kinds(1, 1), 0);
    }
  }

  private static void kindsLesser() {
    C.part("kinds: the lesser of MOST and of both together");
    for (int safe = 1; safe <= 8; safe++) {
      OutInTime x = Check.of("door A 0 3;door A 0 4;slow 1;safe A " + safe + ";");
      C.due("kinds(0, 0)", x.kinds(0, 0), Math.min(3, safe));
      C.due("kinds(0, 1)", x.kinds(0, 1), Math.min(4, safe));
      C.due("kinds(0, 2)", x.kinds(0, 2), Math.min(7, safe));
    }
    OutInTime x = Check.of("street A B 1 2;door A 0 3;door A 0 4;slow 1;safe B 9;");
    int[] most = {0, 2, 4, 6, 7, 7};
    int[] both = {0, 2, 4, 5, 6, 7};
    for (int t = 0; t < 6; t++) {
      C.due("most(" + t + ")", x.most(t), most[t]);
      C.due("kinds(" + t + ", 2)", x.kinds(t, 2), Math.min(most[t], both[t]));
    }
  }
}
