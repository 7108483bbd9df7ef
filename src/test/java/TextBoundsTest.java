import java.util.function.ToIntFunction;

/** Terms I, promises 1 to 7 and 30: what a text and a tape can be, each bound on both its sides. */
public final class TextBoundsTest {
  private static final Check C = new Check();
  private static final int NONE = OutInTime.NONE;
  private static final int LOW = Integer.MIN_VALUE;
  private static final int HIGH = Integer.MAX_VALUE;
  private static final int BLANK = 0x20202020;
  private static final String STREET = "street A B1 1;";

  public static void main(String[] args) {
    upTo300Bytes();
    withoutTownNothing();
    feedUpTo300();
    feedHighestFirst();
    endUpToWhatItHas();
    places();
    everyByteBetweenTokens();
    numbersOfClauses();
    longNumbers();
    streetsAtMost();
    turnsAtMost();
    doorsAtMost();
    peopleTogether();
    toldAhead();
    openFromTo();
    toItself();
    secondTimes();
    ofOneTheLeast();
    theEndAtTheLength();
    formerOneStays();
    townLeavesNothing();
    latestTextThatWasRead();
    streetWhats();
    placeWhats();
    aboutWhats();
    againstReading();
    C.finish();
  }

  private static String times(String text, int n) {
    return text.repeat(Math.max(0, n));
  }

  private static void taken(String text, int streets) {
    OutInTime x = new OutInTime();
    C.due("town() of " + text, Check.read(x, text), streets);
    C.due("fault(0) of " + text, x.fault(0), 0);
    C.due("fault(1) of " + text, x.fault(1), NONE);
  }

  private static void refused(String text, int number, int at) {
    OutInTime x = new OutInTime();
    C.due("town() of " + text, Check.read(x, text), NONE);
    C.due("fault(0) of " + text, x.fault(0), number);
    C.due("fault(1) of " + text, x.fault(1), at);
  }

  private static void upTo300Bytes() {
    C.part("TOWNS are texts of up to 300 bytes");
    OutInTime x = Check.of(times(" ", 291) + "safe A 7;");
    C.due("the last of 300 is read", x.place(0, 1), 7);
    refused(times(" ", 292) + "safe A 7", 1, 300);
    refused(times(" ", 299) + ".", 1, 299);
    taken(times("\n", 300), 0);
    taken("", 0);
    String full = times(STREET, 16) + times("door A 0 9;", 6) + "hold A 70;";
    C.due("bytes", full.length(), 300);
    x = Check.of(full);
    C.due("about(0)", x.about(0), 16);
    C.due("about(1)", x.about(1), 6);
    C.due("about(5)", x.about(5), 23);
    C.due("place(0, 0)", x.place(0, 0), 70);
    x = new OutInTime();
    for (int n = 20; n <= 300; n += 20) {
      C.due("feed", x.feed(BLANK, BLANK, BLANK, BLANK, BLANK), n);
    }
    C.due("feed of 320", x.feed(0x2e2e2e2e, 0, 0, 0, 0), NONE);
    C.due("none came: town()", x.town(), 0);
  }

  private static void withoutTownNothing() {
    C.part("without one there is nothing in it; No TOWN, nothing told");
    OutInTime x = new OutInTime();
    C.due("fault(0) ahead of any", x.fault(0), NONE);
    C.due("fault(1) ahead of any", x.fault(1), NONE);
    for (int p = 0; p < 8; p++) {
      C.due("place(" + p + ", 0)", x.place(p, 0), 99);
      C.due("place(" + p + ", 1)", x.place(p, 1), 0);
      C.due("place(" + p + ", 2)", x.place(p, 2), 0);
      C.due("signs(" + p + ")", x.signs(p), NONE);
      C.due("ring(" + p + ")", x.ring(p), 0);
      C.due("sign(" + p + ", 0)", x.sign(p, 0), false);
      C.due("change(" + p + ", 1, 0)", x.change(p, 1, 0), false);
    }
    for (int t = 0; t <= 12; t++) {
      C.due("most(" + t + ")", x.most(t), 0);
      C.due("all(" + t + ", 0)", x.all(t, 0), 0);
      C.due("all(" + t + ", 1)", x.all(t, 1), 1);
      C.due("all(" + t + ", 2)", x.all(t, 2), NONE);
      C.due("wider(" + t + ", 0)", x.wider(t, 0), NONE);
      C.due("wider(" + t + ", 1)", x.wider(t, 1), NONE);
      C.due("judged(" + (10 + t) + ")", x.judged(10 + t), 0);
      C.due("judged(" + (30 + t) + ")", x.judged(30 + t), 0);
      C.due("cut(" + t + ", 7, " + t + ")", x.cut(t, 7, t), 0);
      C.due("kinds(" + t + ", 2)", x.kinds(t, 2), 0);
      C.due("signed(" + t + ", -1)", x.signed(t, NONE), 0);
      C.due("signed(" + t + ", 8)", x.signed(t, 8), 0);
    }
    C.due("quick()", x.quick(), 0);
    C.due("turned(0)", x.turned(0), 0);
    C.due("turned(1)", x.turned(1), 0);
    C.due("judged(0)", x.judged(0), 0);
    C.due("judged(1)", x.judged(1), NONE);
    C.due("judged(2)", x.judged(2), NONE);
    C.due("judged(3)", x.judged(3), 0);
    C.due("piece(-1, 0)", x.piece(NONE, 0), 0);
    C.due("piece(0, 0)", x.piece(0, 0), NONE);
    C.due("changed(3)", x.changed(3), NONE);
    C.due("changed(4)", x.changed(4), 0);
    C.due("signs(-1)", x.signs(NONE), 0);
    C.due("street(0, 0)", x.street(0, 0), NONE);
    C.due("enter(0, 0, 0)", x.enter(0, 0, 0), false);
    C.due("slow(0, 0, 0)", x.slow(0, 0, 0), false);
    C.due("wave(0, ..)", x.wave(0, NONE, NONE, NONE, 0, 0, 1), false);
    C.due("falls(0, 0, 0)", x.falls(0, 0, 0), NONE);
    C.due("turn(0)", x.turn(0), true);
    C.due("turn(1)", x.turn(1), false);
    C.due("image()", x.image(), 0);
    C.due("back()", x.back(), 0);
    C.due("the tape: end(1)", x.end(1), NONE);
    C.due("the tape: end(0)", x.end(0), 0);
  }

  private static void feedUpTo300() {
    C.part("feed: NONE, and none come, if there would be more than 300");
    for (int n = 260; n <= 300; n++) {
      OutInTime x = new OutInTime();
      for (int fed = 0; fed < 300; fed += 20) {
        x.feed(BLANK, BLANK, BLANK, BLANK, BLANK);
      }
      C.due("end(" + n + ")", x.end(n), n);
      // a sign that stands nowhere would be a fault
      int due = n <= 280 ? n + 20 : NONE;
      C.due("feed behind " + n, x.feed(0x2e2e2e2e, BLANK, BLANK, BLANK, 0x2e2e2e2e), due);
      C.due("about(4)", x.about(4), n <= 280 ? n + 20 : n);
      C.due("end(300)", x.end(300), n == 280 || n == 300 ? 300 : NONE);
      C.due("town()", x.town(), n <= 280 ? NONE : 0);
      C.due("fault(1)", x.fault(1), n <= 280 ? n : NONE);
    }
  }

  private static void feedHighestFirst() {
    C.part("feed: twenty bytes, the highest of a first");
    for (int at = 0; at < 20; at++) {
      int[] v = {BLANK, BLANK, BLANK, BLANK, BLANK};
      int shift = 24 - at % 4 * 8;
      v[at / 4] = v[at / 4] & ~(255 << shift) | 0xfe << shift;
      OutInTime x = new OutInTime();
      C.due("feed", x.feed(BLANK, BLANK, BLANK, BLANK, BLANK), 20);
      C.due("feed", x.feed(v[0], v[1], v[2], v[3], v[4]), 40);
      C.due("town()", x.town(), NONE);
      C.due("the byte 254 stands where it came", x.fault(1), 20 + at);
    }
  }

  private static void endUpToWhatItHas() {
    C.part("end: NONE, and nothing is done, if it has not so many, or n is below 0");
    OutInTime x = new OutInTime();
    C.due("end(0) of an empty tape", x.end(0), 0);
    C.due("end(1) of an empty tape", x.end(1), NONE);
    C.due("end(-1) of an empty tape", x.end(-1), NONE);
    for (int n : new int[] {-1, LOW, HIGH, 21, 22, 300, 301, 20, 19, 1, 0}) {
      x = new OutInTime();
      x.feed(0x2e202020, BLANK, BLANK, BLANK, BLANK);
      boolean has = n >= 0 && n <= 20;
      C.due("end(" + n + ")", x.end(n), has ? n : NONE);
      C.due("about(4)", x.about(4), has ? n : 20);
      C.due("town()", x.town(), n == 0 ? 0 : NONE);
    }
    x = new OutInTime();
    x.feed(0x686f6c64, 0x20412035, 0x3b2e2e2e, 0x2e2e2e2e, 0x2e2e2e2e);
    C.due("end(7)", x.end(7), 7);
    C.due("the bytes behind it are gone: end(8)", x.end(8), NONE);
    C.due("the next come behind the seventh", x.feed(0x343b2020, BLANK, BLANK, BLANK, BLANK), 27);
    C.due("town()", x.town(), 0);
    C.due("place(0, 0)", x.place(0, 0), 4);
    x = new OutInTime();
    for (int fed = 0; fed < 300; fed += 20) {
      x.feed(BLANK, BLANK, BLANK, BLANK, BLANK);
    }
    C.due("end(301) of a full tape", x.end(301), NONE);
    C.due("end(300) of a full tape", x.end(300), 300);
    C.due("end(299) of a full tape", x.end(299), 299);
  }

  private static void places() {
    C.part("PLACES A .. H (0 .. 7); PLACE: one TOKEN of A .. H");
    String names = "@ABCDEFGHI[`abcdefghi{";
    for (int i = 0; i < names.length(); i++) {
      char name = names.charAt(i);
      int place = name - 'A';
      boolean can = place >= 0 && place < 8;
      String[] texts = {"hold " + name + " 5;", "safe " + name + " 5;", "door " + name + " 5 5;"};
      for (String text : texts) {
        if (can) {
          taken(text, 0);
        } else {
          refused(text, 1, 5);
        }
      }
      String other = name == 'B' ? "C" : "B";
      if (can) {
        taken("street " + name + " " + other + " 1 1;street " + other + " " + name + " 1 1;", 2);
        C.due("safe", Check.of("safe " + name + " 5;").place(place, 1), 5);
        C.due("door", Check.of("door " + name + " 0 5;").place(place, 2), 5);
        C.due("hold", Check.of("hold " + name + " 5;").place(place, 0), 5);
        C.due("from", Check.of("street " + name + " " + other + " 1 1;").street(0, 0), place);
        C.due("to", Check.of("street " + other + " " + name + " 1 1;").street(0, 1), place);
      } else {
        refused("street " + name + " B 1 1;", 1, 7);
        refused("street B " + name + " 1 1;", 1, 9);
      }
    }
    refused("safe AA 5;", 1, 5);
    refused("safe HH 5;", 1, 5);
    refused("safe A A 5;", 1, 7);
  }

  /** What a byte is, is told by where the fault is when it stands between two tokens. */
  private static void everyByteBetweenTokens() {
    C.part("blanks (32, 10) aside; letters, digits one behind the other are one TOKEN; of the others ; alone");
    for (int b = 0; b < 256; b++) {
      char sign = (char) b;
      boolean blank = b == 32 || b == 10;
      boolean digit = b >= '0' && b <= '9';
      boolean letter = b >= 'a' && b <= 'z' || b >= 'A' && b <= 'Z';
      if (blank) {
        taken("safe A 1;" + sign + "safe B 1;", 0);
        refused("safe A 1" + sign + "2;", 1, 9);
        taken("hold" + sign + "A" + sign + "1" + sign + ";", 0);
        taken(sign + "hold A 1;" + sign, 0);
      } else {
        refused("safe A 1;" + sign + "safe B 1;", 1, 9);
        refused("safe A 1" + sign + "02;", digit ? 2 : 1, digit ? 7 : b == ';' ? 9 : 8);
        refused("safe A 1;" + sign, 1, 9);
      }
      refused("sa" + sign + "fe A 1;", 1, 0);
      int at = letter ? 5 : blank || digit && b != '0' ? 7 : 6;
      refused("safe A" + sign + "B;", b == '0' ? 2 : 1, at);
    }
  }

  /** All numbers from 0 to 130 stand at a place of a text: those from least to greatest are taken. */
  private static void sweep(String ahead, String behind, int least, int greatest, ToIntFunction<OutInTime> asked) {
    for (int n = 0; n <= 130; n++) {
      String text = ahead + n + behind;
      if (n >= least && n <= greatest) {
        C.due("of " + text, asked.applyAsInt(Check.of(text)), n);
      } else {
        refused(text, 2, ahead.length());
      }
    }
    for (String wraps : new String[] {"4294967296", "2147483648", "18446744073709551616", "65536", "256", "1000"}) {
      refused(ahead + wraps + behind, 2, ahead.length());
      // so many more that a number of 32 or 64 bits would come round to the least
      String more = new java.math.BigInteger(wraps).add(java.math.BigInteger.valueOf(least)).toString();
      refused(ahead + more + behind, 2, ahead.length());
    }
    refused(ahead + "-" + least + behind, 1, ahead.length());
  }

  private static void numbersOfClauses() {
    C.part("hold: 0 .. 99");
    sweep("hold A ", ";", 0, 99, x -> x.place(0, 0));
    C.part("street: MINUTES 1 .. 5");
    sweep("street A B ", " 1;", 1, 5, x -> x.street(0, 2));
    C.part("street: WIDTH 1 .. 9");
    sweep("street A B 1 ", ";", 1, 9, x -> x.street(0, 3));
    C.part("open: from a minute 0 .. 12");
    sweep(STREET + "open 0 ", " 12;", 0, 12, x -> x.street(0, 4));
    C.part("open: to one, 0 .. 12, not below the first");
    for (int first = 0; first <= 12; first++) {
      sweep(STREET + "open 0 " + first + " ", ";", first, 12, x -> x.street(0, 5));
    }
    C.part("door: from a minute on, 0 .. 12");
    sweep("safe A 1;door A ", " 1;", 0, 12, OutInTime::quick);
    C.part("door: so many people, 1 .. 30");
    sweep("door A 0 ", ";", 1, 30, x -> x.place(0, 2));
    C.part("safe: so many, 1 .. 99");
    sweep("safe A ", ";", 1, 99, x -> x.place(0, 1));
  }

  private static void longNumbers() {
    C.part("digits likewise (NUMBERS)");
    C.due("naughts ahead", Check.of("safe A " + times("0", 290) + "99;").place(0, 1), 99);
    refused("safe A " + times("0", 289) + "100;", 2, 7);
    refused("safe A " + times("0", 292) + ";", 2, 7);
    C.due("naughts alone", Check.of("hold A " + times("0", 292) + ";").place(0, 0), 0);
    refused("safe A " + times("9", 292) + ";", 2, 7);
    refused("safe A 1" + times("0", 291) + ";", 2, 7);
  }

  private static void streetsAtMost() {
    C.part("STREETS are numbered from 0, 16 at most; 4 the 17th street (at the word)");
    for (int n = 0; n <= 16; n++) {
      OutInTime x = new OutInTime();
      C.due("town() of " + n, Check.read(x, times(STREET, n)), n);
      C.due("about(0)", x.about(0), n);
      C.due("the last one", x.street(n - 1, 2), n == 0 ? NONE : 1);
      C.due("one more", x.street(n, 2), NONE);
    }
    String sixteen = times(STREET, 16);
    refused(sixteen + STREET, 4, 224);
    refused(sixteen + " \nstreet", 4, 226);
    refused(sixteen + "street A A 9 9;", 4, 224);
    refused(sixteen + "street street", 4, 224);
    refused(sixteen + "streets", 1, 224);
    refused(sixteen + "hold street", 1, 229);
    taken(sixteen + "turns 15;open 15 0 0;", 16);
  }

  private static void turnsAtMost() {
    C.part("5 at most; 4 the 6th turns (at the word)");
    String text = times(STREET, 6);
    for (int n = 0; n < 5; n++) {
      C.due("about(3) of " + n, Check.of(text).about(3), n);
      text += "turns " + n + ";";
    }
    C.due("about(3) of 5", Check.of(text).about(3), 5);
    C.due("the fifth", Check.of(text).street(4, 6), 1);
    refused(text + "turns 5;", 4, text.length());
    refused(text + "turns", 4, text.length());
    refused(text + "turns 0;", 4, text.length());
    refused(text + "turns 6;", 4, text.length());
    refused(text + "hold turns", 1, text.length() + 5);
  }

  private static void doorsAtMost() {
    C.part("6 at most; 4 the 7th door (at the word)");
    for (int n = 0; n <= 6; n++) {
      OutInTime x = Check.of(times("door A 0 1;", n));
      C.due("about(1)", x.about(1), n);
      C.due("about(2)", x.about(2), n);
    }
    String six = times("door A 0 1;", 6);
    refused(six + "door A 0 1;", 4, 66);
    refused(six + "\ndoor", 4, 67);
    refused(six + "door I 13 31;", 4, 66);
    refused(six + "safe door", 1, 71);
    taken(six + "slow 5;slow 0;", 0);
  }

  private static void peopleTogether() {
    C.part("99 people at most together; 4 people above 99 (at their NUMBER)");
    String ninety = times("door A 0 30;", 3);
    for (int n = 1; n <= 30; n++) {
      if (n <= 9) {
        C.due("about(2)", Check.of(ninety + "door B 12 " + n + ";").about(2), 90 + n);
      } else {
        refused(ninety + "door B 12 " + n + ";", 4, 46);
      }
    }
    refused(ninety + "door B 12 0;", 2, 46);
    refused(ninety + "door B 12 31;", 2, 46);
    refused(ninety + "door B 13 10;", 2, 43);
    String full = ninety + "door A 0 8;";
    C.due("99 by six", Check.of(full + "door H 0 1;").about(2), 99);
    refused(full + "door H 0   2;", 4, 58);
    refused(full + "door H 0 1;door H 0 1;", 4, 67);
    C.due("place(0, 2)", Check.of(ninety + "door A 0 9;").place(0, 2), 99);
  }

  private static void toldAhead() {
    C.part("a STREET, a DOOR told ahead; 2 a STREET, DOOR that wasn't told");
    for (int n = 0; n <= 3; n++) {
      String streets = times(STREET, n);
      String doors = times("door A 0 1;", n);
      for (int i = 0; i <= 4; i++) {
        if (i < n) {
          taken(streets + "open " + i + " 0 0;", n);
          taken(streets + "turns " + i + ";", n);
          taken(doors + "slow " + i + ";", 0);
        } else {
          refused(streets + "open " + i + " 0 0;" + STREET, 2, streets.length() + 5);
          refused(streets + "turns " + i + ";" + STREET, 2, streets.length() + 6);
          refused(doors + "slow " + i + ";door A 0 1;", 2, doors.length() + 5);
        }
      }
      refused(streets + "open 4294967296 0 0;", 2, streets.length() + 5);
      refused(streets + "turns 4294967296;", 2, streets.length() + 6);
      refused(doors + "slow 4294967296;", 2, doors.length() + 5);
    }
    refused("door A 0 1;turns 0;", 2, 17);
    refused(STREET + "slow 0;", 2, 19);
  }

  private static void openFromTo() {
    C.part("a STREET told ahead can be entered from a minute to one alone");
    OutInTime x = Check.of(STREET + STREET + "open 1 12 12;");
    C.due("not told: from", x.street(0, 4), 0);
    C.due("not told: to", x.street(0, 5), 12);
    C.due("told: from", x.street(1, 4), 12);
    C.due("told: to", x.street(1, 5), 12);
    x = Check.of(STREET + "open 0 0 0;");
    C.due("from", x.street(0, 4), 0);
    C.due("to", x.street(0, 5), 0);
  }

  private static void toItself() {
    C.part("3 a street from a PLACE to itself (at the second)");
    for (char a = 'A'; a <= 'H'; a++) {
      for (char b = 'A'; b <= 'H'; b++) {
        String text = "street " + a + "  " + b + " 1 1;";
        if (a == b) {
          refused(text, 3, 10);
        } else {
          taken(text, 1);
        }
      }
    }
    refused("street A A", 3, 9);
    refused("street A", 1, 8);
  }

  private static void secondTimes() {
    C.part("3 a hold, safe of a PLACE, open, turns of a STREET, slow of a DOOR for the second time");
    taken("hold A 1;hold B 1;safe A 1;safe B 1;", 0);
    refused("hold A 99;hold B 1;hold A", 3, 24);
    refused("safe H 1;safe G 1;safe H", 3, 23);
    String two = STREET + STREET;
    taken(two + "open 0 1 1;turns 0;open 1 1 1;turns 1;", 2);
    refused(two + "open 0 0 12;open 0", 3, 45);
    refused(two + "turns 1;turns 0;turns 1", 3, 50);
    String doors = times("door A 0 1;", 2);
    taken(doors + "slow 0;slow 1;", 0);
    refused(doors + "slow 1;slow 0;slow 1", 3, 41);
    taken(doors + "hold A 1;safe A 1;", 0);
    taken(two, 2);
  }

  private static void ofOneTheLeast() {
    C.part("the first as TOKENS are come to, of one the least");
    refused("hold A 1;hold I", 1, 14);
    refused("hold A 1;hold 1", 1, 14);
    refused("street A ;", 1, 9);
    refused("street I I", 1, 7);
    refused("street A A 0 0", 3, 9);
    refused("street A B 0 0", 2, 11);
    refused(STREET + "open 0 13 0", 2, 21);
    refused(STREET + "open 1 13 14", 2, 19);
    refused(STREET + "open 0 3 2", 2, 23);
    refused(STREET + "open 0 3 x", 1, 23);
    refused(STREET + "turns 0;turns 1", 2, 28);
    refused("hold A 100;.", 2, 7);
    refused("hold A 1;hold A 100", 3, 14);
    refused("door A 0 30;door A 0 30;door A 0 30;door A 0 31", 2, 45);
    refused(times("door A 0 30;", 3) + "door A 0 10.", 4, 45);
    refused("hold A 1 .", 1, 9);
    refused("hold A 1", 1, 8);
  }

  private static void theEndAtTheLength() {
    C.part("of the end at the length");
    String text = "hold A 1 ; street B C 2 3 ; open 0 4 5 ; turns 0 ; door D 6 7 ; safe E 8 ; slow 0 ; ";
    for (int n = 0; n <= text.length(); n++) {
      String cut = text.substring(0, n);
      // what ends in the midst of a word is no word that can stand
      int word = cut.endsWith(" ") || cut.isEmpty() ? n : cut.lastIndexOf(' ') + 1;
      boolean whole = cut.strip().endsWith(";") || cut.isBlank();
      boolean half = text.substring(word).matches("(?s)[a-z].*") && !text.substring(n).startsWith(" ");
      if (whole) {
        taken(cut, n > 26 ? 1 : 0);
      } else {
        refused(cut, 1, half ? word : n);
      }
    }
    for (int blanks = 0; blanks < 4; blanks++) {
      refused("safe A 8" + times("\n", blanks), 1, 8 + blanks);
      refused("safe A" + times(" ", blanks), 1, 6 + blanks);
      refused("safe" + times(" ", blanks), 1, 4 + blanks);
    }
  }

  private static void formerOneStays() {
    C.part("town: NONE: it has a FAULT; the former one stays");
    for (String text : new String[] {".", "hold A 1;.", STREET + STREET + "turns 2;", "safe A 9;safe A 9;", "door"}) {
      OutInTime x = Scene.full();
      OutInTime y = Scene.full();
      C.due("town() of " + text, Check.read(x, text), NONE);
      C.due("the tape is empty then", x.about(4), 0);
      Scene.nowAlike(C, "behind a fault", x, y);
      C.due("back()", x.back(), y.back());
      Scene.nowAlike(C, "behind a fault, of the image", x, y);
    }
  }

  private static void townLeavesNothing() {
    C.part("town: SIGNS are none then, no CHANGES, no WAY is told, nothing TURNED");
    for (String text : new String[] {"", Scene.TEXT, STREET, "hold A 1;"}) {
      OutInTime x = Scene.full();
      OutInTime y = new OutInTime();
      Check.read(x, text);
      Check.read(y, text);
      C.due("the tape is empty then", x.about(4), 0);
      C.due("fault(0)", x.fault(0), 0);
      C.due("fault(1)", x.fault(1), NONE);
      C.due("about(6)", x.about(6), 0);
      C.due("judged(3)", x.judged(3), 0);
      Scene.nowAlike(C, "a town behind another", x, y);
      OutInTime z = Scene.full();
      C.due("THE IMAGE stays: back()", x.back(), z.back());
      Scene.nowAlike(C, "THE IMAGE stays", x, z);
    }
  }

  private static void latestTextThatWasRead() {
    C.part("fault: of the latest text that was read");
    OutInTime x = new OutInTime();
    Check.tape(x, "hold A 100;");
    C.due("not read yet: fault(0)", x.fault(0), NONE);
    C.due("not read yet: fault(1)", x.fault(1), NONE);
    x.town();
    for (int time = 0; time < 2; time++) {
      C.due("fault(0)", x.fault(0), 2);
      C.due("fault(1)", x.fault(1), 7);
      x.image();
      x.back();
      Check.tape(x, "hold A 1;");
    }
    x.town();
    C.due("fault(0)", x.fault(0), 0);
    C.due("fault(1)", x.fault(1), NONE);
    Check.read(x, "x");
    C.due("at the first byte: fault(1)", x.fault(1), 0);
    for (int what : new int[] {-1, 2, LOW, HIGH}) {
      C.due("fault(" + what + ")", x.fault(what), NONE);
    }
  }

  private static void streetWhats() {
    C.part("street: NONE for others");
    for (int n : new int[] {0, 1, 16}) {
      OutInTime x = Check.of(times(STREET, n));
      for (int street : new int[] {LOW, -2, -1, 0, 1, 15, 16, 17, 32, HIGH}) {
        for (int what : new int[] {LOW, -1, 0, 7, 8, HIGH}) {
          boolean there = street >= 0 && street < n && what >= 0 && what < 8;
          C.due("street(" + street + ", " + what + ")", x.street(street, what), there ? 0 : NONE);
        }
      }
    }
  }

  private static void placeWhats() {
    C.part("place: NONE for others");
    OutInTime x = Check.of("hold A 0;hold H 0;");
    for (int place : new int[] {LOW, -2, -1, 0, 7, 8, 9, HIGH}) {
      for (int what : new int[] {LOW, -1, 0, 1, 2, 3, HIGH}) {
        boolean there = place >= 0 && place < 8 && what >= 0 && what < 3;
        C.due("place(" + place + ", " + what + ")", x.place(place, what), there ? 0 : NONE);
      }
    }
    x = Check.of("safe H 99;hold A 98;");
    C.due("without hold", x.place(7, 0), 99);
    C.due("safe", x.place(7, 1), 99);
    C.due("not SAFE", x.place(0, 1), 0);
  }

  private static void aboutWhats() {
    C.part("about: NONE for others");
    OutInTime x = new OutInTime();
    for (int what : new int[] {LOW, -2, -1, 8, 9, HIGH}) {
      C.due("about(" + what + ")", x.about(what), NONE);
    }
    C.due("about(0)", x.about(0), 0);
    C.due("about(7)", x.about(7), 0);
    for (int n = 0; n <= 2; n++) {
      String text = "door A 0 3;door B 0 4;" + (n > 0 ? "slow 1;" : "") + (n > 1 ? "slow 0;" : "");
      C.due("SLOW people", Check.of(text).about(7), n == 0 ? 0 : n == 1 ? 4 : 7);
      C.due("CLAUSES", Check.of(text).about(5), 2 + n);
      C.due("people", Check.of(text).about(2), 7);
    }
    x = Check.of("hold A 1;hold B 1;");
    Check.read(x, "hold A 1;hold B 1;hold C 1;.");
    C.due("CLAUSES of THE TOWN, not of the faulty text", x.about(5), 2);
  }

  private static final String[] PARTS = {
    "hold", "street", "open", "turns", "door", "safe", "slow", ";", ";", "A", "B", "H", "I", "0", "1", "5", "6", "9",
    "10", "12", "13", "30", "31", "99", "100", ".", "", "\n",
  };

  /** Texts one or two signs away from such as are taken, against the other reading. */
  private static void againstReading() {
    for (int seed = 0; seed < 4000; seed++) {
      Dice dice = new Dice(20000 + seed);
      StringBuilder s = new StringBuilder(nearText(dice));
      for (int n = dice.upTo(2); n > 0 && s.length() > 0; n--) {
        int at = dice.upTo(s.length() - 1);
        String part = PARTS[dice.upTo(PARTS.length - 1)];
        s.replace(at, at + dice.upTo(1), dice.upTo(1) == 0 ? part : " " + part);
      }
      String text = s.length() > 300 ? s.substring(0, 300) : s.toString();
      C.part("against the other reading: " + text);
      OutInTime x = new OutInTime();
      new Reading(text).compare(C, x, Check.read(x, text));
    }
  }

  private static String nearText(Dice dice) {
    if (dice.upTo(3) == 0) {
      return Plan.random(dice, 2 + dice.upTo(6), 16, 6, 30).text();
    }
    StringBuilder s = new StringBuilder();
    int clauses = dice.upTo(30);
    for (int i = 0; i < clauses && s.length() < 290; i++) {
      s.append(nearClause(dice));
    }
    return s.toString();
  }

  private static String nearClause(Dice dice) {
    char a = (char) ('A' + dice.upTo(7));
    char b = (char) ('A' + dice.upTo(7));
    boolean wild = dice.upTo(60) == 0;
    switch (dice.upTo(7)) {
      case 0:
        return "hold " + a + " " + dice.upTo(wild ? 110 : 99) + ";";
      case 1:
      case 2:
        return a == b && !wild ? "" : "street " + a + " " + b + " " + (1 + dice.upTo(4)) + " " + (1 + dice.upTo(8)) + ";";
      case 3:
        return "open " + dice.upTo(3) + " " + dice.upTo(6) + " " + (6 + dice.upTo(wild ? 8 : 6)) + ";";
      case 4:
        return "turns " + dice.upTo(8) + ";";
      case 5:
        return "door " + a + " " + dice.upTo(12) + " " + (1 + dice.upTo(wild ? 30 : 18)) + ";";
      case 6:
        return "safe " + a + " " + (1 + dice.upTo(wild ? 110 : 98)) + ";";
      default:
        return "slow " + dice.upTo(3) + ";";
    }
  }
}
