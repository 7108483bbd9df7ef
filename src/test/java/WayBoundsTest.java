/** Terms III, promises 15 to 19: ways told, judged, in waves and pieces, each bound on both its sides. */
public final class WayBoundsTest {
  private static final Check C = new Check();
  private static final int NONE = OutInTime.NONE;
  private static final int LOW = Integer.MIN_VALUE;
  private static final int HIGH = Integer.MAX_VALUE;
  private static final int[] EDGES = {LOW, -31, -2, -1, 0, 1, 2, 11, 12, 13, 15, 16, 29, 30, 31, 32, HIGH};

  public static void main(String[] args) {
    soManyEnter();
    toldAnew();
    enteringAt12();
    moreThanItsWidth();
    whileItIsntOpen();
    moreThanAreThere();
    behindDoorsFromTheirMinute();
    slowOutOfDoorsOfTheirOwn();
    asFewAsCanBe();
    whoCameByStreets();
    outsOfASafePlace();
    outsOfDoorsLowestFirst();
    slowGoOutBehindOthers();
    moreWaitThanItHolds();
    firstMinuteThenStreetThenPlace();
    judgedWhats();
    judgedNotLawful();
    someTold();
    waveNumbers();
    waveMinutes();
    waveStreets();
    waveGoesOn();
    waveEnteringBehind12();
    waveThirtyAtMost();
    piecesNone();
    pieceWhats();
    piecesToMinute12();
    piecesLowestFirst();
    C.finish();
  }

  private static void soManyEnter() {
    C.part("so many enter a STREET at a minute (0 .. 12; 0 .. 30). False for others");
    for (int n = 0; n <= 2; n++) {
      String town = "street A B 1 1;".repeat(n);
      for (int street : new int[] {LOW, -2, -1, 0, 1, 2, 15, 16, HIGH}) {
        for (int minute : EDGES) {
          OutInTime x = Check.of(town);
          int told = 0;
          for (int people : EDGES) {
            boolean can = street >= 0 && street < n && minute >= 0 && minute <= 12 && people >= 0 && people <= 30;
            String args = "(" + street + ", " + minute + ", " + people + ")";
            C.due("enter" + args, x.enter(street, minute, people), can);
            C.due("slow" + args, x.slow(street, minute, people), can);
            told = can ? Math.min(1, people) : told;
            C.due("judged(3) behind it", x.judged(3), told);
          }
        }
      }
    }
    OutInTime x = Check.of("street A B1 1;".repeat(16));
    C.due("the last of all: enter(15, 12, 30)", x.enter(15, 12, 30), true);
    C.due("the last of all: slow(15, 12, 30)", x.slow(15, 12, 30), true);
    C.due("enter(16, 12, 30)", x.enter(16, 12, 30), false);
    C.due("slow(16, 12, 30)", x.slow(16, 12, 30), false);
    C.due("piece(0, 0)", x.piece(0, 0), 30);
    C.due("piece(0, 1)", x.piece(0, 1), 12);
    C.due("piece(0, 10)", x.piece(0, 10), 15);
  }

  private static void toldAnew() {
    C.part("told anew in place of the number it had");
    OutInTime x = Check.of("street A B 1 9;door A 0 30;door A 0 30;slow 1;");
    for (int n : new int[] {30, 0, 1, 29, 0, 30}) {
      C.due("enter(0, 4, " + n + ")", x.enter(0, 4, n), true);
      C.due("piece(-1, 0)", x.piece(NONE, 0), n == 0 ? 0 : 1);
      C.due("piece(0, 0)", x.piece(0, 0), n == 0 ? NONE : n);
      C.due("judged(3)", x.judged(3), n == 0 ? 0 : 1);
      C.due("judged(0)", x.judged(0), n > 9 ? 1 : 0);
    }
    x.enter(0, 4, 0);
    for (int n : new int[] {30, 0, 4, 5, 0}) {
      C.due("slow(0, 4, " + n + ")", x.slow(0, 4, n), true);
      C.due("they are told of apart: piece(-1, 0)", x.piece(NONE, 0), 0);
      C.due("judged(3)", x.judged(3), n == 0 ? 0 : 1);
      C.due("judged(0)", x.judged(0), n > 4 ? 1 : 0);
    }
  }

  private static void enteringAt12() {
    C.part("a minute (0 .. 12): who enters so late that nobody sees them come");
    for (int minutes = 1; minutes <= 5; minutes++) {
      for (int minute = 0; minute <= 12; minute++) {
        OutInTime x = Check.of("street A B " + minutes + " 9;door A 0 9;door A 0 9;slow 1;safe B 99;");
        C.due("enter", x.enter(0, minute, 7), true);
        C.due("slow", x.slow(0, minute, 1), true);
        C.due("judged(0)", x.judged(0), 0);
        for (int t = 0; t <= 12; t++) {
          int plain = t >= minute + minutes ? 7 : 0;
          int slow = t >= minute + minutes + 1 ? 1 : 0;
          C.due(minutes + " at " + minute + ": judged(" + (10 + t) + ")", x.judged(10 + t), plain + slow);
          C.due(minutes + " at " + minute + ": judged(" + (30 + t) + ")", x.judged(30 + t), slow);
        }
      }
    }
  }

  private static void moreThanItsWidth() {
    C.part("1: a STREET of which more than its WIDTH enter; SLOW people count as two of its WIDTH; 1 by both together");
    for (int width = 1; width <= 9; width++) {
      OutInTime x = Check.of("street A B 1 " + width + ";door A 0 30;door A 0 30;slow 1;");
      for (int plain = 0; plain <= 10; plain++) {
        for (int slow = 0; slow <= 6; slow++) {
          if (plain == 6) {
            x = Check.of("street A B 1 " + width + ";door A 0 30;door A 0 30;slow 1;");
          }
          x.enter(0, 3, plain);
          x.slow(0, 3, slow);
          boolean bars = plain + 2 * slow > width;
          C.due(width + " wide, " + plain + " and " + slow + ": judged(0)", x.judged(0), bars ? 1 : 0);
          C.due("judged(1)", x.judged(1), bars ? 3 : NONE);
          C.due("judged(2)", x.judged(2), bars ? 0 : NONE);
        }
      }
    }
    OutInTime x = Check.of("street A B 1 9;door A 0 30;door A 0 30;slow 1;");
    x.enter(0, 0, 30);
    C.due("30 of 9", x.judged(0), 1);
    x.enter(0, 0, 0);
    x.slow(0, 0, 30);
    C.due("30 SLOW of 9", x.judged(0), 1);
  }

  private static void whileItIsntOpen() {
    C.part("1: a STREET .., or any while it isn't open");
    for (int from = 0; from <= 12; from += 3) {
      for (int till = from; till <= 12; till += 2) {
        for (int minute = 0; minute <= 12; minute++) {
          OutInTime x = Check.of("street A B 1 9;open 0 " + from + " " + till + ";door A 0 9;door A 0 9;slow 1;");
          boolean open = minute >= from && minute <= till;
          x.enter(0, minute, 1);
          C.due(from + " .. " + till + " at " + minute, x.judged(0), open ? 0 : 1);
          C.due("judged(1)", x.judged(1), open ? NONE : minute);
          x.enter(0, minute, 0);
          C.due("none enters", x.judged(0), 0);
          x.slow(0, minute, 1);
          C.due("a SLOW one, " + from + " .. " + till + " at " + minute, x.judged(0), open ? 0 : 1);
        }
      }
    }
  }

  private static void moreThanAreThere() {
    C.part("2: a PLACE from whose STREETS more enter than are there");
    for (int people = 1; people <= 9; people++) {
      for (int first = 0; first <= 9; first++) {
        OutInTime x = Check.of("street A B 1 9;street A C 1 9;door A 0 " + people + ";");
        x.enter(0, 0, first);
        for (int second = 0; second <= 9; second += 3) {
          x.enter(1, 0, second);
          boolean bars = first + second > people;
          C.due(first + " and " + second + " of " + people, x.judged(0), bars ? 2 : 0);
          C.due("judged(1)", x.judged(1), bars ? 0 : NONE);
          C.due("judged(2)", x.judged(2), bars ? 0 : NONE);
        }
      }
    }
    OutInTime x = Check.of("street H B 1 9;street C B 1 9;door B 0 9;");
    x.enter(0, 12, 1);
    C.due("nobody is there: judged(0)", x.judged(0), 2);
    C.due("judged(1)", x.judged(1), 12);
    C.due("judged(2)", x.judged(2), 7);
  }

  private static void behindDoorsFromTheirMinute() {
    C.part("who is behind its DOORS from their minute on");
    for (int door = 0; door <= 12; door++) {
      for (int minute = 0; minute <= 12; minute++) {
        OutInTime x = Check.of("street A B 1 9;door A " + door + " 2;door A 12 9;");
        x.enter(0, minute, 2);
        boolean bars = minute < door && minute < 12;
        C.due("door at " + door + ", enter at " + minute, x.judged(0), bars ? 2 : 0);
        x.enter(0, minute, 3);
        C.due("three", x.judged(0), minute < 12 ? 2 : 0);
      }
    }
    OutInTime x = Check.of("street A B 1 9;door A 0 4;");
    x.enter(0, 0, 3);
    x.enter(0, 5, 1);
    C.due("one stays behind it: judged(0)", x.judged(0), 0);
    x.enter(0, 5, 2);
    C.due("no two: judged(0)", x.judged(0), 2);
    C.due("judged(1)", x.judged(1), 5);
  }

  private static void slowOutOfDoorsOfTheirOwn() {
    C.part("2 first of those who aren't SLOW, then of SLOW ones, each out of DOORS of their own");
    for (int plain = 0; plain <= 3; plain++) {
      for (int slow = 0; slow <= 2; slow++) {
        OutInTime x = Check.of("street A B 1 9;door A 0 2;door A 0 1;slow 1;");
        x.enter(0, 4, plain);
        x.slow(0, 4, slow);
        boolean bars = plain > 2 || slow > 1;
        C.due(plain + " and " + slow + ": judged(0)", x.judged(0), bars ? 2 : 0);
        C.due("judged(1)", x.judged(1), bars ? 4 : NONE);
      }
    }
    // a SLOW one who waits is none of those who aren't
    OutInTime x = Check.of("street A B 1 9;street B C 1 9;door A 0 1;slow 0;");
    x.slow(0, 0, 1);
    x.enter(1, 2, 1);
    C.due("as one who isn't SLOW: judged(0)", x.judged(0), 2);
    C.due("judged(1)", x.judged(1), 2);
    C.due("judged(2)", x.judged(2), 1);
    x.enter(1, 2, 0);
    x.slow(1, 1, 1);
    C.due("ahead of coming: judged(0)", x.judged(0), 2);
    C.due("judged(1)", x.judged(1), 1);
    x.slow(1, 1, 0);
    x.slow(1, 2, 1);
    C.due("as SLOW: judged(0)", x.judged(0), 0);
    x.slow(1, 3, 1);
    C.due("who went on isn't there: judged(0)", x.judged(0), 2);
    C.due("judged(1)", x.judged(1), 3);
    C.due("judged(2)", x.judged(2), 1);
    for (int plain = 0; plain <= 1; plain++) {
      for (int first = 0; first <= 3; first++) {
        for (int second = 0; second <= 3; second++) {
          x = Check.of("street A B 1 9;street A C 1 9;door A 0 3;" + (plain == 0 ? "slow 0;" : ""));
          C.due("told", plain == 0 ? x.slow(0, 5, first) : x.enter(0, 5, first), true);
          C.due("told", plain == 0 ? x.slow(1, 5, second) : x.enter(1, 5, second), true);
          C.due(first + " and " + second + " of 3, by two STREETS", x.judged(0), first + second > 3 ? 2 : 0);
        }
      }
    }
  }

  private static void asFewAsCanBe() {
    C.part("as few as can be come out of DOORS");
    // 2 come to A by a street and go on; were A's own to go for them, two would wait in it
    OutInTime x = Check.of("hold A 0;street B A 1 9;street A C 1 9;door B 0 3;door A 0 2;");
    x.enter(0, 0, 2);
    x.enter(1, 1, 2);
    C.due("who came goes on: judged(0)", x.judged(0), 0);
    x.enter(1, 1, 1);
    C.due("one of them waits: judged(0)", x.judged(0), 3);
    C.due("judged(1)", x.judged(1), 1);
    C.due("judged(2)", x.judged(2), 0);
    x.enter(1, 1, 4);
    C.due("two more out of the DOOR: judged(0)", x.judged(0), 0);
    x.enter(1, 1, 5);
    C.due("no three: judged(0)", x.judged(0), 2);
    x.enter(0, 0, 0);
    x.enter(1, 1, 0);
    C.due("hold isn't asked of who is behind a DOOR: judged(0)", x.judged(0), 0);
  }

  private static void whoCameByStreets() {
    C.part("who waited, who came by STREETS");
    for (int minutes = 1; minutes <= 5; minutes++) {
      for (int minute = 0; minute <= 12; minute++) {
        OutInTime x = Check.of("street A B " + minutes + " 2;street B C 1 9;door A 3 2;door A 3 1;slow 1;");
        x.enter(0, 3, 2);
        x.enter(1, minute, 2);
        C.due(minutes + " from 3, on at " + minute, x.judged(0), minute >= 3 + minutes ? 0 : 2);
        x.enter(0, 3, 0);
        x.enter(1, minute, 0);
        x.slow(0, 3, 1);
        x.slow(1, minute, 1);
        C.due("a SLOW one, " + minutes + " from 3, on at " + minute, x.judged(0), minute >= 4 + minutes ? 0 : 2);
      }
    }
  }

  private static void outsOfASafePlace() {
    C.part("of who is left in a SAFE PLACE as many as it still takes go out");
    for (int safe = 1; safe <= 6; safe++) {
      OutInTime x = Check.of("street A B 1 9;street B C 1 9;door A 0 3;door A 4 2;safe B " + safe + ";");
      x.enter(0, 0, 3);
      x.enter(0, 4, 2);
      C.due("judged(10)", x.judged(10), 0);
      C.due("judged(11)", x.judged(11), Math.min(safe, 3));
      C.due("judged(14)", x.judged(14), Math.min(safe, 3));
      C.due("judged(15)", x.judged(15), Math.min(safe, 5));
      C.due("judged(22)", x.judged(22), Math.min(safe, 5));
      // who enters a street at that minute isn't left
      x.enter(1, 1, 1);
      C.due("one goes on: judged(11)", x.judged(11), Math.min(safe, 2));
      C.due("one goes on: judged(15)", x.judged(15), Math.min(safe, 4));
      x.enter(1, 2, Math.max(0, 2 - safe));
      C.due("who waits can go on: judged(0)", x.judged(0), 0);
      x.enter(1, 2, Math.max(0, 2 - safe) + 1);
      C.due("no more: judged(0)", x.judged(0), 2);
    }
  }

  private static void outsOfDoorsLowestFirst() {
    C.part("as long as it takes more, who is behind its DOORS then, the lowest first; DOORS by numbers whichever they are");
    for (int safe = 1; safe <= 7; safe++) {
      OutInTime x = Check.of("door A 0 2;slow 0;door A 0 2;door A 0 2;slow 2;safe A " + safe + ";");
      C.due("takes " + safe + ": judged(10)", x.judged(10), Math.min(6, safe));
      int slow = Math.min(2, safe) + Math.min(2, Math.max(0, safe - 4));
      C.due("takes " + safe + ": judged(30)", x.judged(30), slow);
      x = Check.of("door A 0 2;door A 0 2;slow 1;safe A " + safe + ";");
      C.due("takes " + safe + ": judged(30)", x.judged(30), Math.min(2, Math.max(0, safe - 2)));
    }
    for (int minute = 0; minute <= 12; minute++) {
      OutInTime x = Check.of("door A " + minute + " 3;safe A 9;");
      for (int t = 0; t <= 12; t++) {
        C.due("DOOR at " + minute + ": judged(" + (10 + t) + ")", x.judged(10 + t), t >= minute ? 3 : 0);
      }
    }
    // at 0 the second door alone, though the first is lower
    OutInTime x = Check.of("door A 1 2;slow 0;door A 0 2;safe A 3;");
    C.due("judged(10)", x.judged(10), 2);
    C.due("judged(11)", x.judged(11), 3);
    C.due("judged(31)", x.judged(31), 1);
    // of whom some entered a street at that minute
    x = Check.of("street A B 1 9;door A 0 2;slow 0;door A 0 2;safe A 3;");
    x.slow(0, 0, 1);
    C.due("judged(10)", x.judged(10), 3);
    C.due("judged(30)", x.judged(30), 1);
  }

  private static void slowGoOutBehindOthers() {
    C.part("outs: of who is left those who aren't SLOW go out first");
    for (int safe = 1; safe <= 6; safe++) {
      OutInTime x = Check.of("street A B 1 9;street C B 2 9;door A 0 2;slow 0;door C 0 2;door B 0 2;slow 2;safe B " + safe + ";");
      x.slow(0, 0, 2);
      x.enter(1, 0, 2);
      // behind the DOOR of B two SLOW ones are out at 0, as long as it takes them
      C.due("judged(10)", x.judged(10), Math.min(2, safe));
      C.due("takes " + safe + ": judged(12)", x.judged(12), Math.min(6, safe));
      int plain = Math.min(2, Math.max(0, safe - 2));
      C.due("takes " + safe + ": judged(32)", x.judged(32), Math.min(6, safe) - plain);
    }
    // who is left goes out ahead of who is behind a DOOR, whichever they are
    OutInTime x = Check.of("street A B 1 9;door A 0 1;slow 0;door B 2 1;safe B 1;");
    x.slow(0, 0, 1);
    C.due("judged(12)", x.judged(12), 1);
    C.due("judged(32)", x.judged(32), 1);
  }

  private static void moreWaitThanItHolds() {
    C.part("3: a PLACE in which more wait than it holds; all wait together");
    for (int hold = 0; hold <= 6; hold++) {
      for (int plain = 0; plain <= 5; plain++) {
        for (int slow = 0; slow <= 2; slow++) {
          OutInTime x = Check.of("street A B 2 5;street C B 1 4;door A 0 5;door C 0 2;slow 1;hold B " + hold + ";hold A 0;");
          x.enter(0, 0, plain);
          x.slow(1, 0, slow);
          boolean bars = plain + slow > hold;
          C.due("holds " + hold + ", " + plain + " and " + slow, x.judged(0), bars ? 3 : 0);
          C.due("judged(1)", x.judged(1), bars ? 2 : NONE);
          C.due("judged(2)", x.judged(2), bars ? 1 : NONE);
        }
      }
    }
    for (int minute = 0; minute <= 12; minute++) {
      OutInTime x = Check.of("street A B 1 5;door A 0 5;hold B 0;");
      x.enter(0, minute, 1);
      C.due("enters at " + minute, x.judged(0), minute < 12 ? 3 : 0);
      C.due("judged(1)", x.judged(1), minute < 12 ? minute + 1 : NONE);
    }
    OutInTime x = Check.of("street A B 1 9;street B C 1 3;door A 0 9;hold B 2;safe B 4;");
    x.enter(0, 0, 9);
    x.enter(1, 1, 3);
    C.due("4 go out, 3 go on, 2 wait: judged(0)", x.judged(0), 0);
    x.enter(1, 1, 2);
    C.due("3 wait: judged(0)", x.judged(0), 3);
    x = Check.of("street A B 1 9;door A 0 30;door A 0 30;door A 0 30;door A 0 9;");
    for (int minute = 0; minute < 11; minute++) {
      x.enter(0, minute, 9);
    }
    C.due("without, 99 can wait: judged(0)", x.judged(0), 0);
  }

  private static void bar(OutInTime x, String when, int bar, int minute, int at) {
    C.due(when + ": judged(0)", x.judged(0), bar);
    C.due(when + ": judged(1)", x.judged(1), minute);
    C.due(when + ": judged(2)", x.judged(2), at);
  }

  private static void firstMinuteThenStreetThenPlace() {
    C.part("The first minute and STREET or PLACE that bars: first STREET by STREET, then PLACE by PLACE");
    OutInTime x = Check.of("street B C 1 1;street A C 1 1;door B 0 2;door A 0 2;hold C 0;");
    x.enter(1, 5, 2);
    x.enter(0, 5, 2);
    bar(x, "two STREETS", 1, 5, 0);
    x.enter(1, 4, 2);
    bar(x, "an earlier minute", 1, 4, 1);
    x.enter(0, 5, 0);
    x.enter(1, 5, 0);
    x.enter(1, 4, 1);
    bar(x, "who comes to C", 3, 5, 2);
    x.enter(0, 5, 2);
    bar(x, "a STREET is ahead of a PLACE", 1, 5, 0);
    x.enter(0, 5, 0);
    x.enter(0, 3, 2);
    bar(x, "an earlier minute", 1, 3, 0);
    x = Check.of("street B C 1 9;street A C 1 9;street C D 1 9;hold C 0;");
    x.enter(0, 0, 1);
    bar(x, "B's alone", 2, 0, 1);
    x.enter(1, 0, 1);
    bar(x, "A is ahead of B", 2, 0, 0);
    x.enter(2, 0, 1);
    bar(x, "A is ahead of C", 2, 0, 0);
    x = Check.of("street B A 1 9;street C D 1 9;door B 0 1;hold A 0;");
    x.enter(0, 0, 1);
    x.enter(1, 1, 1);
    bar(x, "3 of A is ahead of 2 of C", 3, 1, 0);
    x = Check.of("street B C 1 9;street A D 1 9;door B 0 1;hold C 0;");
    x.enter(0, 0, 1);
    x.enter(1, 1, 1);
    bar(x, "2 of A is ahead of 3 of C", 2, 1, 0);
    x = Check.of("street A B 1 9;street B C 1 9;door A 0 2;hold B 0;");
    x.enter(0, 0, 2);
    x.enter(1, 1, 3);
    bar(x, "of one PLACE 2 is ahead of 3", 2, 1, 1);
    x.enter(1, 1, 1);
    bar(x, "3 of it", 3, 1, 1);
    x.enter(1, 1, 2);
    bar(x, "lawful", 0, NONE, NONE);
  }

  private static void judgedWhats() {
    C.part("judged: NONE for others");
    OutInTime x = Check.of("street A B 1 1;door A 0 1;slow 0;safe A 1;");
    x.enter(0, 12, 0);
    for (int what = -20; what <= 64; what++) {
      boolean outBy = what >= 10 && what <= 22;
      boolean slowOutBy = what >= 30 && what <= 42;
      int due = outBy || slowOutBy ? 1 : what == 0 || what == 3 ? 0 : NONE;
      C.due("judged(" + what + ")", x.judged(what), due);
    }
    for (int what : new int[] {LOW, LOW + 10, LOW + 22, HIGH - 10, HIGH}) {
      C.due("judged(" + what + ")", x.judged(what), NONE);
    }
  }

  private static void judgedNotLawful() {
    C.part("judged: 10 + t, 30 + t: NONE, not lawful");
    String[] bars = {"street A B 1 1;safe A 1;door A 0 9;", "street A B 1 9;safe B 1;door A 0 1;",
      "street A B 1 9;hold B 0;door A 0 9;"};
    for (int i = 0; i < 3; i++) {
      OutInTime x = Check.of(bars[i]);
      x.enter(0, 11, 2);
      C.due("judged(0)", x.judged(0), i + 1);
      C.due("judged(1)", x.judged(1), i == 2 ? 12 : 11);
      C.due("judged(3)", x.judged(3), 1);
      for (int t = 0; t <= 12; t++) {
        C.due("judged(" + (10 + t) + ")", x.judged(10 + t), NONE);
        C.due("judged(" + (30 + t) + ")", x.judged(30 + t), NONE);
      }
      x.enter(0, 11, 0);
      C.due("lawful again: judged(22)", x.judged(22), i == 0 ? 1 : 0);
    }
  }

  private static void someTold() {
    C.part("judged: 3 how many STREETS and minutes have some told");
    OutInTime x = Check.of("street A B1 1;".repeat(16));
    int told = 0;
    for (int minute = 0; minute <= 12; minute++) {
      for (int street = 0; street < 16; street++) {
        told++;
        if (street % 2 == 0) {
          x.enter(street, minute, 1 + minute);
        } else {
          x.slow(street, minute, 1 + minute);
        }
      }
      C.due("judged(3)", x.judged(3), told);
    }
    C.due("all of them", x.judged(3), 208);
    x.enter(0, 0, 0);
    C.due("one less", x.judged(3), 207);
    x.slow(0, 0, 0);
    C.due("as many", x.judged(3), 207);
  }

  private static final String LINE = "street A B 1 9;street B C 2 9;street C D 3 9;street D E 4 9;street E F 5 9;";

  private static void waveNumbers() {
    C.part("wave: n 1 .. 30");
    for (int n : EDGES) {
      OutInTime x = Check.of(LINE);
      boolean can = n >= 1 && n <= 30;
      C.due("wave of " + n, x.wave(0, NONE, NONE, NONE, 0, 0, n), can);
      C.due("judged(3)", x.judged(3), can ? 1 : 0);
      C.due("piece(0, 0)", x.piece(0, 0), can ? n : NONE);
    }
  }

  private static void waveMinutes() {
    C.part("wave: in each minute from one to one; minutes 0 .. 12");
    int[] minutes = {LOW, -13, -2, -1, 0, 1, 5, 11, 12, 13, 14, HIGH};
    for (int from : minutes) {
      for (int till : minutes) {
        OutInTime x = Check.of(LINE);
        boolean can = from >= 0 && till <= 12 && from <= till;
        C.due("from " + from + " till " + till, x.wave(0, NONE, NONE, NONE, from, till, 1), can);
        C.due("judged(3)", x.judged(3), can ? till - from + 1 : 0);
        C.due("the first: piece(0, 1)", x.piece(0, 1), can ? from : NONE);
        C.due("the last: piece", x.piece(can ? till - from : 0, 1), can ? till : NONE);
      }
    }
  }

  private static void waveStreets() {
    C.part("wave: up to four STREETS (streets NONE: from there on none)");
    for (int nones = 0; nones < 16; nones++) {
      OutInTime x = Check.of(LINE);
      int[] s = new int[4];
      int streets = 0;
      for (int i = 0; i < 4; i++) {
        s[i] = (nones >> i & 1) == 1 ? NONE : i;
        streets += s[i] == NONE ? 0 : 1;
      }
      boolean can = streets > 0 && nones == (15 << streets & 15);
      C.due("NONE at " + nones, x.wave(s[0], s[1], s[2], s[3], 0, 1, 3), can);
      C.due("judged(3)", x.judged(3), can ? 2 * streets : 0);
      C.due("piece(0, 2)", x.piece(0, 2), can ? streets : NONE);
    }
    for (int i = 0; i < 4; i++) {
      for (int other : new int[] {LOW, -2, 5, 6, 15, 16, HIGH}) {
        OutInTime x = Check.of(LINE);
        int[] s = {0, 1, 2, 3};
        s[i] = other;
        C.due("no STREET " + other + " at " + i, x.wave(s[0], s[1], s[2], s[3], 0, 0, 1), false);
        for (int behind = i + 1; behind < 4; behind++) {
          s[behind] = NONE;
        }
        C.due("no STREET " + other + " at the end", x.wave(s[0], s[1], s[2], s[3], 0, 0, 1), false);
        C.due("judged(3)", x.judged(3), 0);
      }
    }
    OutInTime x = Check.of("street A B1 1;".repeat(16));
    C.due("the last STREET", x.wave(15, NONE, NONE, NONE, 12, 12, 30), true);
  }

  private static void waveGoesOn() {
    C.part("wave: each from where the one ahead goes to; STREETS that don't go on");
    OutInTime x = Check.of(LINE + "street C B 1 9;turns 5;");
    int[][] lines = {{0, 1, 2, 3}, {1, 2, 3, 4}, {0, 2, 3, 4}, {0, 1, 3, 4}, {0, 1, 2, 4}, {0, 5, 2, 3}, {1, 5, 1, 5},
      {0, 0, 0, 0}, {3, 2, 1, 0}, {1, 5, 1, 2}, {1, 5, 5, 1}};
    boolean[] can = {true, true, false, false, false, false, true, false, false, true, false};
    for (int i = 0; i < lines.length; i++) {
      int[] s = lines[i];
      C.due("line " + i, x.wave(s[0], s[1], s[2], s[3], 0, 0, 1), can[i]);
    }
    x.turn(32);
    C.due("turned it goes on from B", x.wave(0, 5, 2, 3, 0, 0, 1), true);
    C.due("turned it goes to C", x.wave(1, 5, 1, 2, 0, 0, 1), false);
  }

  private static void waveEnteringBehind12() {
    C.part("wave: an entering behind minute 12");
    // the second is entered at 1, the third at 3, the fourth at 6 at the earliest
    int[] later = {0, 1, 3, 6};
    for (int streets = 1; streets <= 4; streets++) {
      for (int from = 0; from <= 12; from++) {
        for (int till = from; till <= 12; till++) {
          OutInTime x = Check.of(LINE);
          boolean can = till + later[streets - 1] <= 12;
          int b = streets > 1 ? 1 : NONE;
          int c = streets > 2 ? 2 : NONE;
          int d = streets > 3 ? 3 : NONE;
          C.due(streets + " from " + from + " till " + till, x.wave(0, b, c, d, from, till, 30), can);
          C.due("judged(3)", x.judged(3), can ? streets * (till - from + 1) : 0);
        }
      }
    }
    OutInTime x = Check.of("street A B 5 9;street B C 5 9;street C D 5 9;");
    C.due("at 0, 5 and 10", x.wave(0, 1, 2, NONE, 0, 2, 1), true);
    C.due("the third at 13", x.wave(0, 1, 2, NONE, 0, 3, 1), false);
    C.due("who comes behind 12 is asked of nothing", x.wave(0, NONE, NONE, NONE, 12, 12, 1), true);
  }

  private static void waveThirtyAtMost() {
    C.part("wave: that much more is told of each (30 at most each)");
    for (int street = 0; street < 4; street++) {
      for (int had = 0; had <= 30; had += 5) {
        for (int n : new int[] {30 - had, 31 - had}) {
          OutInTime x = Check.of(LINE);
          int[] at = {3, 4, 6, 9};
          x.enter(street, at[street], had);
          boolean can = n >= 1 && had + n <= 30;
          C.due(had + " of " + street + " and " + n, x.wave(0, 1, 2, 3, 2, 3, n), can);
          C.due("judged(3)", x.judged(3), can ? 8 : Math.min(1, had));
        }
      }
    }
    OutInTime x = Check.of(LINE);
    for (int n = 0; n < 30; n++) {
      C.due("one more", x.wave(4, NONE, NONE, NONE, 12, 12, 1), true);
    }
    C.due("the 31st", x.wave(4, NONE, NONE, NONE, 12, 12, 1), false);
    C.due("piece(0, 0)", x.piece(0, 0), 30);
    C.due("SLOW ones are told of apart", x.slow(4, 12, 30), true);
    C.due("of another minute", x.wave(4, NONE, NONE, NONE, 11, 11, 30), true);
  }

  private static void piecesNone() {
    C.part("piece: how many PIECES (i NONE)");
    OutInTime x = Check.of(LINE);
    C.due("none", x.piece(NONE, 0), 0);
    C.due("there is none such", x.piece(0, 0), NONE);
    for (int n = 1; n <= 13; n++) {
      x.enter(4, n - 1, n);
      C.due("pieces", x.piece(NONE, 0), n);
      for (int i : new int[] {LOW, -3, -2, 0, n - 1, n, n + 1, 207, 208, HIGH}) {
        boolean there = i >= 0 && i < n;
        C.due("piece(" + i + ", 0)", x.piece(i, 0), there ? i + 1 : NONE);
        C.due("piece(" + i + ", 1)", x.piece(i, 1), there ? i : NONE);
      }
    }
  }

  private static void pieceWhats() {
    C.part("piece: NONE if there is none such, and for others");
    for (int streets = 1; streets <= 4; streets++) {
      OutInTime x = Check.of(LINE);
      x.wave(0, streets > 1 ? 1 : NONE, streets > 2 ? 2 : NONE, streets > 3 ? 3 : NONE, 1, 1, 7);
      for (int what = -5; what <= 40; what++) {
        int k = what - 10;
        int due = k >= 0 && k < streets ? k : what == 0 ? 7 : what == 1 ? 1 : what == 2 ? streets : NONE;
        C.due(streets + " streets: piece(0, " + what + ")", x.piece(0, what), due);
        C.due("piece(1, " + what + ")", x.piece(1, what), NONE);
      }
      for (int what : new int[] {LOW, LOW + 10, HIGH}) {
        C.due("piece(0, " + what + ")", x.piece(0, what), NONE);
      }
    }
  }

  private static void piecesToMinute12() {
    C.part("as long as there is one (to minute 12)");
    for (int minutes = 1; minutes <= 5; minutes++) {
      for (int start = 0; start <= 12; start++) {
        OutInTime x = Check.of("street A B " + minutes + " 9;street B C 1 9;");
        x.enter(0, start, 3);
        for (int t = 0; t <= 12; t++) {
          x.enter(1, t, 3);
        }
        int comes = start + minutes;
        // B's own of all other minutes are pieces of one street
        C.due("pieces", x.piece(NONE, 0), comes <= 12 ? 13 : 14);
        int first = 0;
        for (int i = 0; i < 14; i++) {
          first = x.piece(i, 10) == 0 ? i : first;
        }
        C.due("piece(i, 1)", x.piece(first, 1), start);
        C.due(minutes + " from " + start + ": piece(i, 2)", x.piece(first, 2), comes <= 12 ? 2 : 1);
        C.due("piece(i, 11)", x.piece(first, 11), comes <= 12 ? 1 : NONE);
      }
    }
  }

  private static void piecesLowestFirst() {
    C.part("of the first minute, then the lowest STREET; on by the lowest STREET; the least number is taken from each");
    OutInTime x = Check.of("street B C 1 9;street A B 1 9;street B D 1 9;street A B 1 9;");
    x.enter(3, 2, 1);
    x.enter(1, 2, 5);
    x.enter(2, 3, 4);
    x.enter(0, 3, 1);
    x.enter(2, 0, 30);
    int[][] due = {{30, 0, 1, 2}, {1, 2, 2, 1, 0}, {4, 2, 2, 1, 2}, {1, 2, 1, 3}};
    C.due("pieces", x.piece(NONE, 0), due.length);
    for (int i = 0; i < due.length; i++) {
      for (int what = 0; what < 3; what++) {
        C.due("piece(" + i + ", " + what + ")", x.piece(i, what), due[i][what]);
      }
      for (int k = 0; k < due[i][2]; k++) {
        C.due("piece(" + i + ", " + (10 + k) + ")", x.piece(i, 10 + k), due[i][3 + k]);
      }
    }
    x.slow(3, 2, 30);
    C.due("those who aren't SLOW", x.piece(NONE, 0), due.length);
  }
}
