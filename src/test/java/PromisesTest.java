/** Each promise by its number: ordinary calls, the edges that the document names, wrong calls. */
public final class PromisesTest {
  private static final Check C = new Check();
  private static final int NONE = OutInTime.NONE;
  private static final int LOW = Integer.MIN_VALUE;
  private static final int HIGH = Integer.MAX_VALUE;

  private static final String LINE =
      "street A B 1 2;street B C 2 1;street A C 5 3;door A 0 6;safe C 9;";
  private static final String QUARREL =
      "street A C 1 1;street A D 3 1;street B C 2 1;door A 0 1;door B 0 1;safe C 1;safe D 1;";
  private static final String TURN =
      "street B A 1 3;turns 0;street A C 4 1;street B C 1 3;door A 0 3;safe C 9;";

  public static void main(String[] args) {
    promise1();
    promises2And3();
    promise4();
    tapeBehindFault();
    promise5();
    promises6And7();
    promise8();
    promise9();
    promise10();
    promise11();
    promise12();
    promise13();
    promise14();
    promise15();
    promise16();
    promise16WithSlowOnes();
    promise17();
    promise18();
    promise19();
    promise20();
    promise21();
    promise22();
    promise23();
    promise24();
    promise25();
    promise26();
    promise27();
    promises28And29();
    promise30();
    C.finish();
  }

  private static void promise1() {
    C.part("promise 1");
    OutInTime x = new OutInTime();
    for (int what = 0; what < 8; what++) {
      C.due("about(" + what + ")", x.about(what), 0);
    }
    C.due("fault(0)", x.fault(0), NONE);
    C.due("fault(1)", x.fault(1), NONE);
    C.due("judged(0)", x.judged(0), 0);
    C.due("judged(22)", x.judged(22), 0);
    C.due("judged(42)", x.judged(42), 0);
    C.due("place(7, 0)", x.place(7, 0), 99);
    C.due("place(7, 2)", x.place(7, 2), 0);
    C.due("signed(12, -1)", x.signed(12, NONE), 0);
    C.due("changed(4)", x.changed(4), 0);
    C.due("changed(0)", x.changed(0), NONE);
    C.due("wider(12, 0)", x.wider(12, 0), NONE);
    C.due("kinds(12, 2)", x.kinds(12, 2), 0);
    C.due("all(12, 0)", x.all(12, 0), 0);
    C.due("all(12, 3)", x.all(12, 3), NONE);
    C.due("cut(12, 0, 0)", x.cut(12, 0, 0), 0);
    C.due("turn(0)", x.turn(0), true);
    C.due("turn(1)", x.turn(1), false);
    C.due("town of nothing", x.town(), 0);
    Check.read(x, LINE);
    C.due("the image is the new object: back()", x.back(), 0);
    C.due("about(2)", x.about(2), 0);
  }

  private static void promises2And3() {
    C.part("promise 2");
    OutInTime x = new OutInTime();
    C.due("highest of a first", x.feed(0x686f6c64, 0x20412037, 0x3b202020, 0x20202020, 0x2020200a), 20);
    C.due("town()", x.town(), 0);
    C.due("place(0, 0)", x.place(0, 0), 7);
    for (int n = 20; n <= 300; n += 20) {
      C.due("feed", x.feed(0x20202020, 0x20202020, 0x20202020, 0x20202020, 0x20202020), n);
    }
    C.due("feed above 300", x.feed(0, 0, 0, 0, 0), NONE);
    C.due("about(4)", x.about(4), 300);
    C.due("end(281)", x.end(281), 281);
    C.due("feed above 300", x.feed(0, 0, 0, 0, 0), NONE);
    C.due("nothing came: town()", x.town(), 0);
    x.feed(-1, 0, 0, 0, 0);
    C.due("bytes above 127: town()", x.town(), NONE);
    C.due("bytes above 127: fault(1)", x.fault(1), 0);

    C.part("promise 3");
    x = new OutInTime();
    C.due("end(0)", x.end(0), 0);
    C.due("end(1)", x.end(1), NONE);
    x.feed(0x20202020, 0x20202020, 0x20202020, 0x20202020, 0x20202041);
    C.due("end(-1)", x.end(-1), NONE);
    C.due("end(21)", x.end(21), NONE);
    C.due("end(LOW)", x.end(LOW), NONE);
    C.due("end(HIGH)", x.end(HIGH), NONE);
    C.due("about(4)", x.about(4), 20);
    C.due("end(20)", x.end(20), 20);
    C.due("end(19)", x.end(19), 19);
    C.due("end(20)", x.end(20), NONE);
    C.due("the last byte is gone: town()", x.town(), 0);
  }

  private static void promise4() {
    C.part("promise 4");
    OutInTime x = Check.of(TURN);
    C.due("the tape is empty then", x.about(4), 0);
    x.turn(1);
    x.sign(0, 1);
    x.change(0, 3, 1);
    x.enter(1, 0, 1);
    x.slow(1, 1, 1);
    C.due("town() with a fault", Check.read(x, "safe A 0;"), NONE);
    C.due("the former one stays: about(0)", x.about(0), 3);
    C.due("place(2, 1)", x.place(2, 1), 9);
    C.due("street(0, 7)", x.street(0, 7), 1);
    C.due("signed(4, -1)", x.signed(4, NONE), 1);
    C.due("about(6)", x.about(6), 1);
    C.due("judged(3)", x.judged(3), 2);
    C.due("the tape is empty with a fault too", x.about(4), 0);
    C.due("town()", Check.read(x, TURN), 3);
    C.due("nothing turned", x.street(0, 7), 0);
    C.due("quick()", x.quick(), 6);
    C.due("no sign", x.signed(12, NONE), 0);
    C.due("no change", x.about(6), 0);
    C.due("no way", x.judged(3), 0);
    C.due("a smaller town()", Check.read(x, "hold H 3;"), 0);
    C.due("about(1)", x.about(1), 0);
    C.due("about(3)", x.about(3), 0);
    C.due("about(5)", x.about(5), 1);
    C.due("place(2, 1)", x.place(2, 1), 0);
    C.due("an empty tape is a town", x.town(), 0);
    C.due("place(7, 0)", x.place(7, 0), 99);
    C.due("blanks", Check.read(x, "\n \nstreet\nA B5\n9 ;open 0 12 12;hold A 0;hold B 99  "), NONE);
    C.due("blanks", Check.read(x, "\n \nstreet\nA B5\n9 ;open 0 12 12;hold A 0;hold B 99;  "), 1);
    C.due("street(0, 2)", x.street(0, 2), 5);
    C.due("street(0, 3)", x.street(0, 3), 9);
    C.due("about(5)", x.about(5), 4);
    C.due("naughts ahead", Check.read(x, "hold A 0000000000000000000000000000007;"), 0);
    C.due("place(0, 0)", x.place(0, 0), 7);
  }

  private static void tapeBehindFault() {
    OutInTime x = new OutInTime();
    C.due("feed", x.feed(0, 0, 0, 0, 0), 20);
    C.due("town() of no tokens", x.town(), NONE);
    C.due("end(1) of the empty tape", x.end(1), NONE);
    C.due("feed comes to an empty tape", x.feed(0x686f6c64, 0x20412037, 0x3b202020, 0x20202020, 0x2020200a), 20);
    C.due("the fault stays until the next town()", x.fault(0), 1);
    C.due("nothing of the faulty text is ahead of it", x.town(), 0);
    C.due("place(0, 0)", x.place(0, 0), 7);
    C.due("town() with a fault of all 300 bytes", Check.read(x, times(".", 300)), NONE);
    C.due("fault(1)", x.fault(1), 0);
    C.due("300 can come again", x.feed(0, 0, 0, 0, 0), 20);
    C.due("town() with a fault once more", x.town(), NONE);
    C.due("the former one stays", x.place(0, 0), 7);
    C.due("the tape is a text without tokens then", x.town(), 0);
    C.due("fault(0)", x.fault(0), 0);
    C.due("and it is the town", x.place(0, 0), 99);
  }

  private static void faultDue(String text, int number, int at) {
    OutInTime x = new OutInTime();
    C.due("town() of " + text, Check.read(x, text), NONE);
    C.due("fault(0) of " + text, x.fault(0), number);
    C.due("fault(1) of " + text, x.fault(1), at);
  }

  private static String times(String text, int n) {
    StringBuilder s = new StringBuilder();
    for (int i = 0; i < n; i++) {
      s.append(text);
    }
    return s.toString();
  }

  private static void promise5() {
    C.part("promise 5");
    OutInTime x = Check.of(LINE);
    C.due("fault(0)", x.fault(0), 0);
    C.due("fault(1)", x.fault(1), NONE);
    Check.read(x, "hold A ;");
    C.due("fault(0)", x.fault(0), 1);
    C.due("fault(1)", x.fault(1), 7);
    C.due("fault(2)", x.fault(2), NONE);
    C.due("fault(-1)", x.fault(-1), NONE);
    Check.read(x, "");
    C.due("fault(0)", x.fault(0), 0);
    C.due("fault(1)", x.fault(1), NONE);
    textsOneByOne();
    standing();
    numbers();
    secondTimes();
    tooMany();
  }

  /** Nothing of a text is left for the next one. */
  private static void textsOneByOne() {
    OutInTime x = Check.of("hold A 1;safe A 1;street A B 1 1;open 0 3 4;turns 0;door A 0 5;slow 0;door A 0 6;slow 1;");
    C.due("about(7)", x.about(7), 11);
    C.due("a next text", Check.read(x, "street A B 1 1;door A 0 5;door A 0 6;"), 1);
    C.due("street(0, 4)", x.street(0, 4), 0);
    C.due("street(0, 5)", x.street(0, 5), 12);
    C.due("street(0, 6)", x.street(0, 6), 0);
    C.due("about(7)", x.about(7), 0);
    C.due("place(0, 0)", x.place(0, 0), 99);
    C.due("place(0, 1)", x.place(0, 1), 0);
    C.due("all for the first time again",
        Check.read(x, "hold A 1;safe A 1;street A B 1 1;open 0 3 4;turns 0;door A 0 5;slow 0;"), 1);
    C.due("about(7)", x.about(7), 5);
    Check.read(x, "hold A 15;");
    Check.read(x, "hold A 1");
    C.due("fault(1)", x.fault(1), 8);
    Check.read(x, "holds");
    Check.read(x, "hold");
    C.due("fault(1)", x.fault(1), 4);
  }

  private static void standing() {
    String[] heads = {"hold", "street", "open", "turns", "door", "safe", "slow"};
    for (String head : heads) {
      faultDue("x" + head.substring(1) + " A 1;", 1, 0);
      faultDue(head.substring(0, head.length() - 1) + "x A 1;", 1, 0);
      faultDue(head + " " + head + " A 1;", 1, head.length() + 1);
      faultDue(head + " " + head + " .", 1, head.length() + 1);
      faultDue(head, 1, head.length());
      faultDue("  " + head + "x", 1, 2);
      faultDue(head.toUpperCase(), 1, 0);
      faultDue(head + " ;", 1, head.length() + 1);
      faultDue(head + "\n", 1, head.length() + 1);
    }
    faultDue(";", 1, 0);
    faultDue("A", 1, 0);
    faultDue(" 7", 1, 1);
    faultDue(".", 1, 0);
    faultDue("hold A 1;;", 1, 9);
    faultDue("hold A 1;\t", 1, 9);
    faultDue("hold A 1.", 1, 8);
    faultDue("hold A 1 1;", 1, 9);
    faultDue("hold A A;", 1, 7);
    faultDue("hold 1 1;", 1, 5);
    faultDue("hold AB 1;", 1, 5);
    faultDue("hold AZ 1;", 1, 5);
    faultDue("hold Az 1;", 1, 5);
    faultDue("street A street A B 1 1;", 1, 9);
    faultDue("street A street .", 1, 9);
    faultDue("hold I 1;", 1, 5);
    faultDue("hold a 1;", 1, 5);
    faultDue("hold @ 1;", 1, 5);
    faultDue("hold A -1;", 1, 7);
    faultDue("hold A 1 hold B 1;", 1, 9);
    faultDue("safe A 1", 1, 8);
    faultDue("safe A 1  ", 1, 10);
    faultDue("street A B 1 1", 1, 14);
    faultDue("street A B 1;", 1, 12);
    faultDue("street A 1 1;", 1, 9);
    faultDue("street A B 1 1 1;", 1, 15);
    faultDue("door A 0;", 1, 8);
    faultDue("door A 0 1 1;", 1, 11);
    String one = "street A B 1 1;";
    faultDue(one + "open 0 1;", 1, 23);
    faultDue(one + "open 0 1 1 1;", 1, 26);
    faultDue(one + "turns 0 0;", 1, 23);
    faultDue("door A 0 1;slow 0 0;", 1, 18);
    faultDue(one + "street C C 1 1;hold A 100;", 3, 24);
  }

  private static void numbers() {
    faultDue("hold A 100;", 2, 7);
    faultDue("hold A 4294967296;", 2, 7);
    faultDue("hold A 18446744073709551616;", 2, 7);
    faultDue("street A B 0 1;", 2, 11);
    faultDue("street A B 6 1;", 2, 11);
    faultDue("street A B 5 0;", 2, 13);
    faultDue("street A B 1 10;", 2, 13);
    faultDue("street A A 9 1;", 3, 9);
    faultDue("street I I 9 1;", 1, 7);
    faultDue("open 0 0 0;", 2, 5);
    faultDue("turns 0;", 2, 6);
    faultDue("slow 0;", 2, 5);
    String one = "street A B 1 1;";
    faultDue(one + "open 1 0 0;", 2, 20);
    faultDue(one + "open 0 13 13;", 2, 22);
    faultDue(one + "open 0 5 4;", 2, 24);
    faultDue(one + "open 0 5 13;", 2, 24);
    faultDue(one + "turns 1;", 2, 21);
    faultDue("door A 13 1;", 2, 7);
    faultDue("door A 12 0;", 2, 10);
    faultDue("door A 12 31;", 2, 10);
    faultDue("door A 12 30;slow 1;", 2, 18);
    faultDue("safe A 0;", 2, 7);
    faultDue("safe A 100;", 2, 7);
    OutInTime x = Check.of("hold A 0;hold B 99;street A B 5 9;open 0 0 12;street A B 1 1;open 1 12 12;");
    C.due("street(1, 4)", x.street(1, 4), 12);
  }

  private static void secondTimes() {
    faultDue("hold H 1;hold H 100;", 3, 14);
    faultDue("hold H 99;hold H 99;", 3, 15);
    faultDue("safe H 1;safe H 100;", 3, 14);
    String two = "street A B 1 1;street A B 1 1;";
    faultDue(two + "open 1 0 12;open 1 0 13;", 3, 47);
    faultDue(two + "open 1 0 12;open 0 0 12;open 1 1 1;", 3, 59);
    faultDue(two + "turns 1;turns 1;", 3, 44);
    faultDue("door A 0 1;door A 0 1;slow 1;slow 1;", 3, 34);
    OutInTime x = Check.of("hold A 1;safe A 1;hold B 1;safe B 1;");
    C.due("about(5)", x.about(5), 4);
    C.due("a text forgets the one ahead", Check.read(x, "hold A 1;safe A 1;"), 0);
  }

  private static void tooMany() {
    String street = "street A B1 1;";
    OutInTime x = Check.of(times(street, 16));
    C.due("about(0)", x.about(0), 16);
    faultDue(times(street, 16) + "street A B1 1;", 4, 224);
    faultDue(times(street, 16) + "street", 4, 224);
    faultDue(times(street, 16) + " hold A 1;open 16 1 1;", 2, 239);
    String five = times(street, 6) + "turns 5;turns 4;turns 3;turns 2;turns 1;";
    C.due("about(3)", Check.of(five).about(3), 5);
    faultDue(five + "turns 9;", 4, five.length());
    faultDue(five + "turns 1;", 4, five.length());
    String doors = times("door H 0 9;", 6);
    C.due("about(1)", Check.of(doors).about(1), 6);
    faultDue(doors + "door I 0 1;", 4, 66);
    String full = times("door H 0 30;", 3) + "door H 0 9;";
    C.due("about(2)", Check.of(full).about(2), 99);
    faultDue(full + "door H 0 1;", 4, 56);
    faultDue(full + "door H 0 31;", 2, 56);
  }

  private static void promises6And7() {
    C.part("promise 6");
    OutInTime x = Check.of("street C H 3 7;street B A 5 9;open 1 2 11;turns 1;");
    int[][] due = {{2, 7, 3, 7, 0, 12, 0, 0}, {1, 0, 5, 9, 2, 11, 1, 0}};
    for (int street = 0; street < 2; street++) {
      for (int what = 0; what < 8; what++) {
        C.due("street(" + street + ", " + what + ")", x.street(street, what), due[street][what]);
      }
      C.due("street(" + street + ", -1)", x.street(street, -1), NONE);
      C.due("street(" + street + ", 8)", x.street(street, 8), NONE);
    }
    C.due("street(2, 0)", x.street(2, 0), NONE);
    C.due("street(-1, 0)", x.street(-1, 0), NONE);
    C.due("street(HIGH, 0)", x.street(HIGH, 0), NONE);
    C.due("street(LOW, 0)", x.street(LOW, 0), NONE);
    x.turn(2);
    C.due("street(1, 0)", x.street(1, 0), 0);
    C.due("street(1, 1)", x.street(1, 1), 1);
    C.due("street(1, 2)", x.street(1, 2), 5);
    C.due("street(1, 4)", x.street(1, 4), 2);
    C.due("street(1, 7)", x.street(1, 7), 1);
    C.due("street(0, 7)", x.street(0, 7), 0);
    C.due("street(0, 0)", x.street(0, 0), 2);

    C.part("promise 7");
    x = Check.of("hold A 0;hold H 5;safe H 99;safe B 1;door B 3 4;door H 0 9;door B 12 30;slow 0;");
    int[][] places = {{0, 0, 0}, {99, 1, 34}, {99, 0, 0}};
    for (int place = 0; place < 3; place++) {
      for (int what = 0; what < 3; what++) {
        C.due("place(" + place + ", " + what + ")", x.place(place, what), places[place][what]);
      }
    }
    C.due("place(7, 0)", x.place(7, 0), 5);
    C.due("place(7, 1)", x.place(7, 1), 99);
    C.due("place(7, 2)", x.place(7, 2), 9);
    C.due("place(8, 0)", x.place(8, 0), NONE);
    C.due("place(-1, 0)", x.place(-1, 0), NONE);
    C.due("place(0, 3)", x.place(0, 3), NONE);
    C.due("place(0, -1)", x.place(0, -1), NONE);
    C.due("place(HIGH, 0)", x.place(HIGH, 0), NONE);
  }

  private static void promise8() {
    C.part("promise 8");
    String text = "street A B 1 1;street B C 1 1;street A D 1 1;street C D 1 1;turns 3;turns 0;turns 1;";
    OutInTime x = Check.of(text);
    C.due("turn(4)", x.turn(4), false);
    C.due("turn(5)", x.turn(5), false);
    C.due("turn(16)", x.turn(16), false);
    C.due("turn(-1)", x.turn(-1), false);
    C.due("turn(LOW)", x.turn(LOW), false);
    C.due("nothing is turned", x.street(0, 7), 0);
    x.enter(1, 0, 2);
    x.slow(1, 3, 2);
    x.sign(0, 0);
    x.sign(1, 1);
    x.sign(2, 3);
    x.change(0, 2, 0);
    x.change(0, 4, 2);
    x.change(1, 5, 1);
    x.change(1, 6, NONE);
    C.due("turn(1)", x.turn(1), true);
    C.due("about(6)", x.about(6), 4);
    C.due("a sign that stays", x.change(2, 1, 3), true);
    C.due("turn(10)", x.turn(10), true);
    C.due("street(0, 7)", x.street(0, 7), 0);
    C.due("street(1, 7)", x.street(1, 7), 1);
    C.due("street(3, 7)", x.street(3, 7), 1);
    C.due("the way stays", x.judged(3), 2);
    C.due("about(6)", x.about(6), 5);
    // of all that was told only the change of A at 4 to street 2 is left
    C.due("turn(0)", x.turn(0), true);
    C.due("about(6)", x.about(6), 5);
    signsAfterTurns();
  }

  private static void signsAfterTurns() {
    String text = "street A B 1 1;turns 0;street A C 1 1;street B C 1 1;turns 2;door A 0 3;door B 0 2;safe C 9;";
    OutInTime x = Check.of(text);
    x.sign(0, 0);
    x.turn(1);
    C.due("A's sign is gone", x.signed(0, 0), 3);
    x.turn(0);
    C.due("and stays gone", x.signed(0, 0), 3);
    x.sign(0, 1);
    x.sign(1, 2);
    x.turn(1);
    C.due("signs to streets that stay", x.signed(1, NONE), 2);
    x.change(0, 1, NONE);
    C.due("a change to none", x.signed(12, NONE), 3);
    x.turn(1);
    C.due("turned as they were: none goes", x.signed(12, NONE), 3);
    x.turn(4);
    C.due("B's sign is gone", x.signed(12, NONE), 1);
    x.turn(0);
    C.due("and stays gone", x.signed(12, NONE), 1);
    x.sign(1, 2);
    x.sign(0, 0);
    x.change(0, 1, 0);
    x.change(1, 7, 2);
    C.due("A's people go by B", x.signed(12, NONE), 5);
    x.turn(1);
    C.due("the change is to none", x.signed(12, NONE), 2);
    x.change(0, 1, 1);
    C.due("from 1 on another one", x.signed(12, NONE), 5);
    C.due("signed(1, 0)", x.signed(1, 0), 2);
  }

  private static void promise9() {
    C.part("promise 9");
    OutInTime x = Check.of(LINE);
    int[] due = {0, 0, 0, 1, 2, 6, 6, 6, 6, 6, 6, 6, 6};
    for (int t = 0; t <= 12; t++) {
      C.due("most(" + t + ")", x.most(t), due[t]);
    }
    C.due("most(-1)", x.most(-1), NONE);
    C.due("most(13)", x.most(13), NONE);
    C.due("most(LOW)", x.most(LOW), NONE);
    C.due("most(HIGH)", x.most(HIGH), NONE);
    x = Check.of("hold B 1;street A B 1 9;street B C 1 2;open 1 3 4;door A 0 9;safe C 9;");
    int[] held = {0, 0, 0, 0, 2, 4, 4};
    for (int t = 0; t < held.length; t++) {
      C.due("a place holds 1: most(" + t + ")", x.most(t), held[t]);
    }
    x = Check.of("door A 3 5;door A 12 5;safe A 7;");
    C.due("most(2)", x.most(2), 0);
    C.due("most(3)", x.most(3), 5);
    C.due("most(12)", x.most(12), 7);
    x = Check.of("hold A 0;street A B 5 1;door A 0 9;door A 4 9;safe B 99;");
    C.due("waiting behind the door: most(12)", x.most(12), 8);
    C.due("by 5", x.most(5), 1);
  }

  private static void promise10() {
    C.part("promise 10");
    OutInTime x = Check.of(LINE);
    C.due("cut(3, 0, 0)", x.cut(3, 0, 0), 1);
    C.due("cut(3, 0, 3)", x.cut(3, 0, 3), 1);
    C.due("cut(3, 1, 0)", x.cut(3, 1, 0), 0);
    C.due("cut(3, 1, 1)", x.cut(3, 1, 1), 1);
    C.due("cut(3, 2, 3)", x.cut(3, 2, 3), 0);
    C.due("all are out: cut(5, 0, 0)", x.cut(5, 0, 0), 0);
    C.due("cut(3, 0, 4)", x.cut(3, 0, 4), NONE);
    C.due("cut(3, 0, -1)", x.cut(3, 0, -1), NONE);
    C.due("cut(3, 8, 0)", x.cut(3, 8, 0), NONE);
    C.due("cut(3, -1, 0)", x.cut(3, -1, 0), NONE);
    C.due("cut(13, 0, 0)", x.cut(13, 0, 0), NONE);
    C.due("cut(-1, 0, -1)", x.cut(-1, 0, -1), NONE);
    C.due("cut(HIGH, 0, HIGH)", x.cut(HIGH, 0, HIGH), NONE);
    // C takes 1 in all: one who comes later can stand where the one who goes out stands
    x = Check.of("street A C 1 1;door A 0 2;safe C 1;");
    C.due("cut(2, 2, 0)", x.cut(2, 2, 0), 0);
    C.due("cut(2, 2, 1)", x.cut(2, 2, 1), 1);
    C.due("cut(2, 2, 2)", x.cut(2, 2, 2), 1);
    // a door with all out gives way to one with someone left
    x = Check.of("street A B 1 1;street C B 1 1;street B D 1 1;open 2 1 1;door A 0 1;door C 0 1;safe D 9;");
    C.due("cut(2, 0, 0)", x.cut(2, 0, 0), 1);
    C.due("cut(2, 2, 0)", x.cut(2, 2, 0), 1);
    C.due("cut(2, 1, 1)", x.cut(2, 1, 1), 1);
    C.due("cut(2, 3, 2)", x.cut(2, 3, 2), 0);
  }

  private static void promise11() {
    C.part("promise 11");
    C.due("LINE", Check.of(LINE).quick(), 5);
    C.due("no people", Check.of("street A B 1 1;").quick(), 0);
    C.due("at once", Check.of("door A 0 9;safe A 9;").quick(), 0);
    C.due("too little", Check.of("door A 0 9;safe A 8;").quick(), NONE);
    C.due("at 12", Check.of("door A 12 9;safe A 9;").quick(), 12);
    C.due("at 13", Check.of("street A B 1 9;door A 12 9;safe B 9;").quick(), NONE);
    OutInTime x = Check.of(TURN);
    C.due("TURN", x.quick(), 6);
    x.turn(1);
    C.due("TURN, turned", x.quick(), 2);
    x.turn(0);
    C.due("and back", x.quick(), 6);
  }

  private static void promise12() {
    C.part("promise 12");
    OutInTime x = Check.of(LINE);
    C.due("all(12, 0)", x.all(12, 0), 51);
    C.due("all(12, 1)", x.all(12, 1), 1);
    C.due("all(12, 2)", x.all(12, 2), NONE);
    C.due("all(12, 3)", x.all(12, 3), NONE);
    x = Check.of(QUARREL);
    int[] sums = {0, 1, 2, 3, 5};
    for (int t = 0; t < sums.length; t++) {
      C.due("all(" + t + ", 0)", x.all(t, 0), sums[t]);
      C.due("all(" + t + ", 1)", x.all(t, 1), t < 3 ? 1 : 0);
      C.due("all(" + t + ", 2)", x.all(t, 2), t < 3 ? NONE : 1);
      C.due("all(" + t + ", 3)", x.all(t, 3), t < 3 ? NONE : 3);
    }
    C.due("all(12, 3)", x.all(12, 3), 3);
    C.due("all(2, 2)", x.all(2, 2), NONE);
    C.due("all(2, 3)", x.all(2, 3), NONE);
    C.due("all(12, 4)", x.all(12, 4), NONE);
    C.due("all(12, -1)", x.all(12, -1), NONE);
    C.due("all(13, 0)", x.all(13, 0), NONE);
    C.due("all(-1, 0)", x.all(-1, 0), NONE);
    C.due("all(HIGH, 2)", x.all(HIGH, 2), NONE);
    x = Check.of("street A C 1 1;turns 0;street A D 3 1;street B C 2 1;door A 0 1;door B 0 1;safe C 1;safe D 1;");
    C.due("all(3, 1)", x.all(3, 1), 0);
    x.turn(1);
    C.due("turned, all(3, 1)", x.all(3, 1), 1);
    C.due("turned, all(3, 2)", x.all(3, 2), NONE);
    C.due("turned, all(3, 0)", x.all(3, 0), 3);
    String later = "street A C 2 1;street A D 4 1;street B C 3 1;door A 0 1;door B 0 1;safe C 1;safe D 1;";
    String[] texts = {QUARREL, later, QUARREL};
    for (int i = 0; i < 3; i++) {
      Check.read(x, texts[i]);
      C.due("town behind town: all(12, 2)", x.all(12, 2), i == 1 ? 2 : 1);
      C.due("town behind town: all(12, 3)", x.all(12, 3), i == 1 ? 4 : 3);
    }
  }

  private static void promise13() {
    C.part("promise 13");
    OutInTime x = Check.of(TURN);
    C.due("turned(0)", x.turned(0), 1);
    C.due("turned(1)", x.turned(1), 2);
    C.due("turned(2)", x.turned(2), NONE);
    C.due("turned(-1)", x.turned(-1), NONE);
    x.turn(1);
    C.due("of the streets as they were told", x.turned(0), 1);
    C.due("it turns nothing", x.street(0, 7), 1);
    C.due("none can", Check.of("street B A 1 1;turns 0;door A 0 1;").turned(0), 0);
    C.due("none can", Check.of("street B A 1 1;turns 0;door A 0 1;").turned(1), NONE);
    x = Check.of("street B A 1 1;turns 0;street C B 1 1;turns 1;door A 0 1;safe C 1;");
    C.due("both: turned(0)", x.turned(0), 3);
    C.due("both: turned(1)", x.turned(1), 2);
    x = Check.of("street D E 1 1;street B A 1 1;turns 1;street E D 1 1;street B A 1 1;turns 3;door A 0 1;safe B 1;");
    C.due("of like ones the lowest: turned(0)", x.turned(0), 2);
    C.due("turned(1)", x.turned(1), 1);
    x = Check.of("street B A 5 1;turns 0;street B A 1 1;turns 1;door A 0 1;safe B 1;");
    C.due("a higher one that is quicker: turned(0)", x.turned(0), 2);
    C.due("of a town out of which none can: turned(0)", Check.read(x, "street B A 5 1;turns 0;door A 0 1;") + x.turned(0), 1);
    C.due("turned(1)", x.turned(1), NONE);
  }

  private static void promise14() {
    C.part("promise 14");
    OutInTime x = Check.of(LINE);
    C.due("wider(4, 0)", x.wider(4, 0), 1);
    C.due("wider(4, 1)", x.wider(4, 1), 2);
    C.due("wider(2, 0)", x.wider(2, 0), NONE);
    C.due("wider(2, 1)", x.wider(2, 1), NONE);
    C.due("wider(4, 2)", x.wider(4, 2), NONE);
    C.due("wider(4, -1)", x.wider(4, -1), NONE);
    C.due("wider(13, 0)", x.wider(13, 0), NONE);
    C.due("wider(-1, 0)", x.wider(-1, 0), NONE);
    C.due("it widens nothing", x.street(1, 3), 1);
    x = Check.of("street A B 2 9;street A B 2 9;door A 0 30;safe B 99;");
    C.due("10 can be: wider(2, 1)", x.wider(2, 1), 1);
    C.due("of like ones the lowest", x.wider(2, 0), 0);
    C.due("by 3 all are out", x.wider(3, 0), NONE);
    x = Check.of("street A B 1 1;street B C 1 1;door A 0 9;safe C 9;");
    C.due("one alone brings nothing", x.wider(5, 0), NONE);
    x = Check.of("hold B 1;street A B 1 9;open 0 0 0;street B C 1 9;open 1 3 4;door A 0 9;safe C 9;");
    C.due("what a place holds grows by no street", x.wider(12, 0), NONE);
    x = Check.of("street A B 1 1;turns 0;door B 0 9;safe A 9;");
    C.due("wider(2, 0)", x.wider(2, 0), NONE);
    x.turn(1);
    C.due("turned, wider(2, 0)", x.wider(2, 0), 0);
    C.due("turned, wider(2, 1)", x.wider(2, 1), 2);
  }

  private static void promise15() {
    C.part("promise 15");
    OutInTime x = Check.of(LINE);
    C.due("enter(0, 0, 30)", x.enter(0, 0, 30), true);
    C.due("enter(0, 0, 31)", x.enter(0, 0, 31), false);
    C.due("enter(0, 0, -1)", x.enter(0, 0, -1), false);
    C.due("enter(3, 0, 1)", x.enter(3, 0, 1), false);
    C.due("enter(-1, 0, 1)", x.enter(-1, 0, 1), false);
    C.due("enter(0, 13, 1)", x.enter(0, 13, 1), false);
    C.due("enter(0, -1, 1)", x.enter(0, -1, 1), false);
    C.due("enter(HIGH, HIGH, HIGH)", x.enter(HIGH, HIGH, HIGH), false);
    C.due("judged(3)", x.judged(3), 1);
    C.due("piece(0, 0)", x.piece(0, 0), 30);
    C.due("enter(2, 12, 3)", x.enter(2, 12, 3), true);
    C.due("judged(3)", x.judged(3), 2);
    C.due("told anew", x.enter(0, 0, 2), true);
    C.due("judged(0)", x.judged(0), 0);
    C.due("enter(0, 0, 0)", x.enter(0, 0, 0), true);
    C.due("judged(3)", x.judged(3), 1);
    C.due("of a town without streets", new OutInTime().enter(0, 0, 0), false);
  }

  private static void judgedDue(OutInTime x, int bar, int minute, int at) {
    C.due("judged(0)", x.judged(0), bar);
    C.due("judged(1)", x.judged(1), minute);
    C.due("judged(2)", x.judged(2), at);
    C.due("judged(22) is told", x.judged(22) == NONE, bar != 0);
    C.due("judged(42) is told", x.judged(42) == NONE, bar != 0);
  }

  private static void promise16() {
    C.part("promise 16");
    OutInTime x = Check.of(LINE);
    x.enter(0, 0, 2);
    x.enter(1, 1, 1);
    x.enter(1, 2, 1);
    judgedDue(x, 0, NONE, NONE);
    int[] due = {0, 0, 0, 1, 2, 2, 2, 2, 2, 2, 2, 2, 2};
    for (int t = 0; t <= 12; t++) {
      C.due("judged(" + (10 + t) + ")", x.judged(10 + t), due[t]);
      C.due("judged(" + (30 + t) + ")", x.judged(30 + t), 0);
    }
    int[] others = {-1, 4, 9, 23, 29, 43, LOW, HIGH};
    for (int what : others) {
      C.due("judged(" + what + ")", x.judged(what), NONE);
    }
    x.enter(1, 3, 1);
    judgedDue(x, 2, 3, 1);
    for (int what : others) {
      C.due("not lawful: judged(" + what + ")", x.judged(what), NONE);
    }
    C.due("judged(3)", x.judged(3), 4);
    x.enter(1, 2, 2);
    judgedDue(x, 1, 2, 1);
    x.enter(2, 2, 3);
    x.enter(0, 2, 2);
    judgedDue(x, 1, 2, 1);
    x.enter(1, 2, 1);
    judgedDue(x, 2, 2, 0);
    doorsOfTheJudge();
    x = Check.of("street A B 1 3;open 0 2 3;door A 0 9;safe B 9;");
    x.enter(0, 2, 3);
    x.enter(0, 3, 3);
    judgedDue(x, 0, NONE, NONE);
    x.enter(0, 4, 1);
    judgedDue(x, 1, 4, 0);
    x.enter(0, 4, 0);
    x.enter(0, 1, 1);
    judgedDue(x, 1, 1, 0);
  }

  private static void doorsOfTheJudge() {
    // as few as can be come out of doors, and what a place holds is asked of who came out alone
    OutInTime x = Check.of("hold A 0;hold B 1;street A B 1 9;street B C 1 1;door A 0 5;door A 1 4;safe C 9;");
    x.enter(0, 0, 2);
    judgedDue(x, 3, 1, 1);
    x.enter(1, 1, 1);
    x.enter(1, 2, 1);
    judgedDue(x, 0, NONE, NONE);
    x.enter(0, 0, 6);
    judgedDue(x, 2, 0, 0);
    x.enter(0, 0, 0);
    x.enter(1, 1, 0);
    x.enter(1, 2, 0);
    x.enter(0, 12, 9);
    judgedDue(x, 0, NONE, NONE);
    // places by numbers: a 3 of A is ahead of a 2 of B
    x = Check.of("hold A 0;street B A 1 2;street B C 1 1;door B 0 1;");
    x.enter(0, 0, 1);
    x.enter(1, 1, 1);
    judgedDue(x, 3, 1, 0);
    x = Check.of("hold C 0;street B C 1 2;street B A 1 1;door B 0 1;");
    x.enter(0, 0, 1);
    x.enter(1, 1, 1);
    judgedDue(x, 2, 1, 1);
    // who is left in a safe place goes out ahead of who is behind its doors
    x = Check.of("street A B 2 3;door A 0 2;door B 1 2;safe B 3;safe A 1;");
    C.due("judged(10)", x.judged(10), 1);
    C.due("judged(11)", x.judged(11), 3);
    x.enter(0, 0, 1);
    C.due("judged(10)", x.judged(10), 1);
    C.due("judged(12)", x.judged(12), 4);
    x = Check.of("street A B 1 9;street B A 1 9;door A 0 3;safe B 1;hold B 1;");
    x.enter(0, 0, 2);
    judgedDue(x, 0, NONE, NONE);
    x.enter(0, 0, 3);
    judgedDue(x, 3, 1, 1);
    x.enter(1, 1, 2);
    judgedDue(x, 0, NONE, NONE);
    C.due("judged(11)", x.judged(11), 1);
    x.enter(1, 1, 3);
    C.due("who goes on does not go out", x.judged(22), 0);
    x = Check.of("hold B 0;street A B 1 1;door A 0 1;");
    x.enter(0, 11, 1);
    judgedDue(x, 3, 12, 1);
  }

  private static void promise16WithSlowOnes() {
    C.part("promise 16, slow ones");
    OutInTime x = Check.of("street A C 2 4;door A 0 3;door A 1 2;slow 1;safe C 9;");
    x.enter(0, 0, 3);
    x.slow(0, 1, 2);
    judgedDue(x, 0, NONE, NONE);
    C.due("judged(12)", x.judged(12), 3);
    C.due("judged(13)", x.judged(13), 3);
    C.due("judged(33)", x.judged(33), 0);
    C.due("judged(14)", x.judged(14), 5);
    C.due("judged(34)", x.judged(34), 2);
    x.slow(0, 1, 1);
    x.enter(0, 1, 3);
    judgedDue(x, 1, 1, 0);
    x.enter(0, 1, 2);
    judgedDue(x, 2, 1, 0);
    x.enter(0, 1, 0);
    x.slow(0, 0, 0);
    judgedDue(x, 0, NONE, NONE);
    x.slow(0, 0, 1);
    judgedDue(x, 1, 0, 0);
    x.enter(0, 0, 2);
    judgedDue(x, 2, 0, 0);
    C.due("both kinds at one minute count once", x.judged(3), 2);
    // outs: of who is left those who aren't slow first, then doors by numbers whichever they are
    x = Check.of("street A B 1 4;street C B 2 4;door A 0 1;slow 0;door C 0 1;door B 2 1;slow 2;door B 2 1;safe B 2;");
    x.slow(0, 0, 1);
    x.enter(1, 0, 1);
    C.due("judged(12)", x.judged(12), 2);
    C.due("judged(32)", x.judged(32), 1);
    x = Check.of("street A B 1 4;street C B 2 4;door A 0 1;slow 0;door C 0 1;safe B 1;");
    x.slow(0, 0, 1);
    x.enter(1, 0, 1);
    C.due("judged(12)", x.judged(12), 1);
    C.due("judged(32)", x.judged(32), 0);
    x = Check.of("door B 0 1;slow 0;door B 0 1;safe B 1;");
    C.due("judged(30)", x.judged(30), 1);
    // all wait together
    x = Check.of("hold B 1;street A B 1 4;door A 0 1;slow 0;door A 0 1;");
    x.slow(0, 0, 1);
    x.enter(0, 1, 1);
    judgedDue(x, 3, 2, 1);
    // each kind comes out of doors of its own
    x = Check.of("street A B 1 9;door A 0 1;slow 0;door A 0 1;safe B 9;");
    x.enter(0, 0, 2);
    judgedDue(x, 2, 0, 0);
    x.enter(0, 0, 1);
    x.slow(0, 0, 2);
    judgedDue(x, 2, 0, 0);
    x.slow(0, 0, 1);
    judgedDue(x, 0, NONE, NONE);
    // a slow one alone bars a street that isn't open
    x = Check.of("street A B 1 9;open 0 1 2;door A 0 1;slow 0;safe B 9;");
    x.slow(0, 0, 1);
    judgedDue(x, 1, 0, 0);
  }

  private static void promise17() {
    C.part("promise 17");
    OutInTime x = Check.of("street A B 1 2;street B C 2 1;street C D 1 1;street D A 5 1;street A C 5 3;turns 4;");
    C.due("wave(0, 1, 2, 3, 0, 2, 7)", x.wave(0, 1, 2, 3, 0, 2, 7), true);
    C.due("judged(3)", x.judged(3), 12);
    C.due("piece(-1, 0)", x.piece(NONE, 0), 3);
    for (int i = 0; i < 3; i++) {
      C.due("piece(" + i + ", 0)", x.piece(i, 0), 7);
      C.due("piece(" + i + ", 1)", x.piece(i, 1), i);
      C.due("piece(" + i + ", 2)", x.piece(i, 2), 4);
      C.due("piece(" + i + ", 13)", x.piece(i, 13), 3);
    }
    C.due("that much more", x.wave(1, NONE, NONE, NONE, 1, 1, 23), true);
    C.due("more than 30", x.wave(0, 1, NONE, NONE, 0, 0, 1), false);
    C.due("nothing is changed", x.piece(0, 0), 7);
    C.due("what is told anew can be waved to again", x.enter(1, 1, 29), true);
    C.due("30 can be", x.wave(0, 1, NONE, NONE, 0, 0, 1), true);
    C.due("judged(3)", x.judged(3), 12);
    wrongWaves(x);
    C.due("judged(3)", x.judged(3), 12);
    C.due("entering at 12", x.wave(0, 1, 2, NONE, 9, 9, 1), true);
    C.due("entering at 13", x.wave(0, 1, 2, NONE, 9, 10, 1), false);
    C.due("judged(3)", x.judged(3), 15);
    C.due("the one of A as it is told", x.wave(4, 2, NONE, NONE, 0, 0, 1), true);
    x.turn(16);
    C.due("turned it goes to A", x.wave(4, 2, NONE, NONE, 0, 0, 1), false);
    C.due("turned it goes to A", x.wave(4, 0, NONE, NONE, 0, 0, 1), true);
    // a ring that comes to its first street again
    x = Check.of("street A B 1 1;street B A 1 1;");
    C.due("16 and 16 at minute 2", x.wave(0, 1, 0, 1, 0, 2, 16), false);
    C.due("judged(3)", x.judged(3), 0);
    C.due("15 and 15 at minute 2", x.wave(0, 1, 0, 1, 0, 2, 15), true);
    C.due("judged(3)", x.judged(3), 10);
    C.due("piece(0, 0)", x.piece(0, 0), 15);
    C.due("piece(0, 2)", x.piece(0, 2), 6);
  }

  private static void wrongWaves(OutInTime x) {
    int[][] wrong = {
      {0, 2, NONE, NONE, 0, 0, 1}, {0, 0, NONE, NONE, 0, 0, 1}, {0, NONE, 1, NONE, 0, 0, 1},
      {0, 1, NONE, 2, 0, 0, 1}, {0, NONE, NONE, 1, 0, 0, 1}, {NONE, 0, 1, NONE, 0, 0, 1},
      {0, 1, 1, NONE, 0, 0, 1}, {0, 1, 2, 2, 0, 0, 1}, {0, 1, NONE, NONE, -2, 0, 1},
      {NONE, NONE, NONE, NONE, 0, 0, 1}, {5, NONE, NONE, NONE, 0, 0, 1}, {-2, NONE, NONE, NONE, 0, 0, 1},
      {0, -2, NONE, NONE, 0, 0, 1}, {0, 1, 2, 9, 0, 0, 1}, {0, NONE, NONE, NONE, 3, 2, 1},
      {0, NONE, NONE, NONE, -1, 2, 1}, {0, NONE, NONE, NONE, 3, 13, 1}, {0, NONE, NONE, NONE, 3, 3, 0},
      {0, NONE, NONE, NONE, 3, 3, 31}, {0, NONE, NONE, NONE, 3, 3, -1}, {0, NONE, NONE, NONE, 13, 13, 1},
      {HIGH, LOW, HIGH, LOW, LOW, HIGH, HIGH}, {0, NONE, NONE, NONE, LOW, HIGH, 1},
    };
    for (int[] w : wrong) {
      C.due("a wrong wave", x.wave(w[0], w[1], w[2], w[3], w[4], w[5], w[6]), false);
    }
  }

  private static void promise18() {
    C.part("promise 18");
    OutInTime x = Check.of("street A B 1 1;street A B 1 1;street B C 1 1;street B D 1 1;street C A 5 1;turns 2;");
    C.due("piece(-1, 9)", x.piece(NONE, 9), 0);
    C.due("piece(0, 0)", x.piece(0, 0), NONE);
    x.enter(0, 1, 3);
    x.enter(1, 1, 2);
    x.enter(2, 2, 4);
    x.enter(3, 2, 2);
    x.enter(4, 3, 9);
    x.enter(0, 8, 1);
    x.slow(0, 0, 5);
    // 0: A B at 1, B C at 2, C A at 3, A B at 8: 1; 1: the like without the last: 2; 2: by street 1: 1; ..
    int[][] due = {{1, 1, 4, 0, 2, 4, 0}, {2, 1, 3, 0, 2, 4}, {1, 1, 3, 1, 2, 4}, {1, 1, 2, 1, 3}, {1, 2, 1, 3}, {5, 3, 1, 4}};
    C.due("piece(-1, 0)", x.piece(NONE, 0), due.length);
    for (int i = 0; i < due.length; i++) {
      C.due("piece(" + i + ", 0)", x.piece(i, 0), due[i][0]);
      C.due("piece(" + i + ", 1)", x.piece(i, 1), due[i][1]);
      C.due("piece(" + i + ", 2)", x.piece(i, 2), due[i][2]);
      for (int k = 0; k < due[i][2]; k++) {
        C.due("piece(" + i + ", " + (10 + k) + ")", x.piece(i, 10 + k), due[i][3 + k]);
      }
      C.due("behind the last", x.piece(i, 10 + due[i][2]), NONE);
    }
    int[][] others = {{6, 0}, {-2, 0}, {0, 3}, {0, 9}, {0, -1}, {HIGH, 0}, {LOW, 0}, {0, HIGH}, {208, 0}};
    for (int[] other : others) {
      C.due("piece(" + other[0] + ", " + other[1] + ")", x.piece(other[0], other[1]), NONE);
    }
    x.turn(4);
    C.due("as streets go now", x.piece(0, 2), 2);
    x = Check.of("street A B 1 1;street B A 1 1;");
    for (int minute = 0; minute <= 12; minute++) {
      x.enter(minute % 2, minute, 1);
    }
    C.due("one piece of all minutes", x.piece(0, 2), 13);
    C.due("piece(0, 22)", x.piece(0, 22), 0);
    C.due("piece(0, 23)", x.piece(0, 23), NONE);
    manyPieces();
  }

  private static void manyPieces() {
    OutInTime x = Check.of(times("street A B1 1;", 16));
    for (int street = 0; street < 16; street++) {
      x.wave(street, NONE, NONE, NONE, 0, 12, 30);
    }
    C.due("a piece of each", x.piece(NONE, 0), 208);
    C.due("piece(207, 0)", x.piece(207, 0), 30);
    C.due("piece(207, 1)", x.piece(207, 1), 12);
    C.due("piece(207, 10)", x.piece(207, 10), 15);
    C.due("piece(208, 0)", x.piece(208, 0), NONE);
  }

  private static void promise19() {
    C.part("promise 19");
    OutInTime x = Check.of(LINE);
    C.due("slow(2, 12, 30)", x.slow(2, 12, 30), true);
    C.due("slow(0, 0, 31)", x.slow(0, 0, 31), false);
    C.due("slow(0, 0, -1)", x.slow(0, 0, -1), false);
    C.due("slow(3, 0, 1)", x.slow(3, 0, 1), false);
    C.due("slow(-1, 0, 1)", x.slow(-1, 0, 1), false);
    C.due("slow(0, 13, 1)", x.slow(0, 13, 1), false);
    C.due("slow(0, -1, 1)", x.slow(0, -1, 1), false);
    C.due("judged(3)", x.judged(3), 1);
    C.due("they are no pieces", x.piece(NONE, 0), 0);
    judgedDue(x, 1, 12, 2);
    C.due("told anew", x.slow(2, 12, 0), true);
    judgedDue(x, 0, NONE, NONE);
  }

  private static void promise20() {
    C.part("promise 20");
    OutInTime x = Check.of("street A C 2 5;door A 0 3;door A 1 4;slow 1;safe C 9;");
    int[][] due = {{0, 0, 0}, {0, 0, 0}, {3, 0, 3}, {3, 0, 3}, {3, 2, 5}, {3, 4, 7}};
    for (int t = 0; t < due.length; t++) {
      for (int what = 0; what < 3; what++) {
        C.due("kinds(" + t + ", " + what + ")", x.kinds(t, what), due[t][what]);
      }
    }
    C.due("kinds(0, 3)", x.kinds(0, 3), NONE);
    C.due("kinds(0, -1)", x.kinds(0, -1), NONE);
    C.due("kinds(13, 0)", x.kinds(13, 0), NONE);
    C.due("kinds(-1, 0)", x.kinds(-1, 0), NONE);
    x = Check.of("street A C 1 9;door A 0 3;door A 0 4;slow 1;safe C 5;");
    C.due("both together are above most", x.kinds(12, 2), 5);
    C.due("kinds(12, 0)", x.kinds(12, 0), 3);
    C.due("kinds(12, 1)", x.kinds(12, 1), 4);
    x = Check.of("street A C 5 1;street B C 5 3;open 1 6 12;door A 0 4;slow 0;door B 0 4;slow 1;safe C 9;");
    C.due("a half of 1 is none, 6 minutes", x.kinds(12, 1), 1);
    C.due("kinds(11, 1)", x.kinds(11, 1), 0);
  }

  private static void promise21() {
    C.part("promise 21");
    OutInTime x = Check.of(LINE);
    C.due("sign(0, 0)", x.sign(0, 0), true);
    C.due("sign(0, 1)", x.sign(0, 1), false);
    C.due("sign(2, 0)", x.sign(2, 0), false);
    C.due("sign(0, 3)", x.sign(0, 3), false);
    C.due("sign(0, -2)", x.sign(0, -2), false);
    C.due("sign(8, -1)", x.sign(8, NONE), false);
    C.due("sign(-1, -1)", x.sign(-1, NONE), false);
    C.due("sign(LOW, HIGH)", x.sign(LOW, HIGH), false);
    C.due("signed(1, 1)", x.signed(1, 1), 2);
    C.due("another one", x.sign(0, 2), true);
    C.due("signed(5, -1)", x.signed(5, NONE), 3);
    C.due("none", x.sign(0, NONE), true);
    C.due("signed(12, 0)", x.signed(12, 0), 6);
    C.due("of a place without streets", x.sign(7, NONE), true);
  }

  private static void promise22() {
    C.part("promise 22");
    OutInTime x = Check.of(LINE);
    x.sign(0, 0);
    x.sign(1, 1);
    int[][] due = {{0, 4, 0, 0, 2}, {0, 2, 1, 0, 3}, {0, 0, 2, 0, 4}, {1, 0, 3, 0, 2}, {2, 0, 2, 0, 2}, {3, 0, 1, 0, 2}};
    int[] whats = {NONE, 0, 1, 2, 8};
    for (int t = 0; t < due.length; t++) {
      for (int i = 0; i < 5; i++) {
        C.due("signed(" + t + ", " + whats[i] + ")", x.signed(t, whats[i]), due[t][i]);
      }
    }
    C.due("signed(0, 9)", x.signed(0, 9), NONE);
    C.due("signed(0, -2)", x.signed(0, -2), NONE);
    C.due("signed(13, -1)", x.signed(13, NONE), NONE);
    C.due("signed(-1, -1)", x.signed(-1, NONE), NONE);
    // who is in a safe place goes out first; hold isn't asked; not yet come ones are nowhere
    x = Check.of("hold B 0;street A B 5 3;open 0 1 12;street B A 5 9;door A 0 4;door A 3 2;slow 1;safe A 1;");
    x.sign(0, 0);
    C.due("signed(0, -1)", x.signed(0, NONE), 1);
    C.due("not open", x.signed(0, 0), 3);
    C.due("signed(0, 8)", x.signed(0, 8), 0);
    C.due("signed(1, 8)", x.signed(1, 8), 3);
    C.due("signed(5, 8)", x.signed(5, 8), 5);
    C.due("signed(6, 1)", x.signed(6, 1), 3);
    C.due("signed(8, 1)", x.signed(8, 1), 5);
    x.sign(1, 1);
    C.due("on streets behind 12", x.signed(12, 8), 5);
    C.due("signed(11, 8)", x.signed(11, 8), 5);
  }

  private static void promise23() {
    C.part("promise 23");
    OutInTime x = Check.of(LINE);
    C.due("change(0, 0, 0)", x.change(0, 0, 0), false);
    C.due("change(0, 13, 0)", x.change(0, 13, 0), false);
    C.due("change(0, 1, 1)", x.change(0, 1, 1), false);
    C.due("change(0, 1, 3)", x.change(0, 1, 3), false);
    C.due("change(0, 1, -2)", x.change(0, 1, -2), false);
    C.due("change(8, 1, -1)", x.change(8, 1, NONE), false);
    C.due("change(-1, 1, -1)", x.change(-1, 1, NONE), false);
    C.due("about(6)", x.about(6), 0);
    C.due("change(0, 2, 0)", x.change(0, 2, 0), true);
    C.due("change(0, 1, 2)", x.change(0, 1, 2), true);
    C.due("signed(1, 8)", x.signed(1, 8), 3);
    C.due("the latest that is come to", x.signed(2, 8), 5);
    C.due("signed(3, 1)", x.signed(3, 1), 2);
    C.due("in place of one", x.change(0, 1, NONE), true);
    C.due("about(6)", x.about(6), 2);
    C.due("signed(1, 8)", x.signed(1, 8), 0);
    C.due("a change to none counts", x.change(0, 12, NONE), true);
    for (int minute = 1; minute <= 5; minute++) {
      C.due("change(1, ..)", x.change(1, minute, 1), true);
    }
    C.due("about(6)", x.about(6), 8);
    C.due("a ninth", x.change(1, 6, 1), false);
    C.due("a ninth to none", x.change(1, 6, NONE), false);
    C.due("in place of one there can be", x.change(1, 5, NONE), true);
    C.due("about(6)", x.about(6), 8);
    C.due("signed(4, 1)", x.signed(4, 1), 2);
    C.due("B's sign is none from 5 on", x.signed(5, 1), 4);
  }

  private static void changedDue(OutInTime x, int... due) {
    for (int what = 0; what < 5; what++) {
      C.due("changed(" + what + ")", x.changed(what), due[what]);
    }
  }

  private static void promise24() {
    C.part("promise 24");
    OutInTime x = Check.of(LINE);
    changedDue(x, 0, 1, 2, 39, 0);
    x.sign(0, 0);
    x.sign(1, 1);
    changedDue(x, 0, 1, 2, 46, 45);
    C.due("changed(5)", x.changed(5), NONE);
    C.due("changed(-1)", x.changed(-1), NONE);
    C.due("nothing is changed", x.about(6), 0);
    x.change(0, 1, 2);
    C.due("changed(4)", x.changed(4), 46);
    // a change that bars all, in place of which another one can be
    x = Check.of(LINE);
    x.sign(0, 2);
    x.change(0, 1, NONE);
    changedDue(x, 0, 1, 2, 45, 24);
    for (int minute = 6; minute <= 12; minute++) {
      x.change(7, minute, NONE);
    }
    changedDue(x, 0, 1, 2, 45, 24);
    x.change(0, 1, 2);
    changedDue(x, NONE, NONE, NONE, NONE, 45);
    // with 8 the one that would help can't be
    x = Check.of(LINE);
    for (int minute = 5; minute <= 12; minute++) {
      x.change(7, minute, NONE);
    }
    changedDue(x, NONE, NONE, NONE, NONE, 0);
  }

  private static void promise25() {
    C.part("promise 25");
    OutInTime x = Check.of(LINE);
    C.due("falls(1, 2, 0)", x.falls(1, 2, 0), 45);
    C.due("falls(1, 2, 1)", x.falls(1, 2, 1), 22);
    C.due("from 0 on: known", x.falls(1, 0, 0), 45);
    C.due("from 0 on: late", x.falls(1, 0, 1), 45);
    C.due("falls(2, 0, 0)", x.falls(2, 0, 0), 45);
    C.due("it falls no more", x.signs(NONE), 45);
    C.due("signs are as they were", x.signed(12, NONE), 0);
    C.due("falls(3, 2, 0)", x.falls(3, 2, 0), NONE);
    C.due("falls(-1, 2, 0)", x.falls(-1, 2, 0), NONE);
    C.due("falls(1, 13, 0)", x.falls(1, 13, 0), NONE);
    C.due("falls(1, -1, 0)", x.falls(1, -1, 0), NONE);
    C.due("falls(1, 2, 2)", x.falls(1, 2, 2), NONE);
    C.due("falls(1, 2, -1)", x.falls(1, 2, -1), NONE);
    x = Check.of("street A B 1 1;door A 0 2;safe B 9;");
    C.due("one is in, the other not", x.falls(0, 1, 0), 12);
    C.due("falls(0, 1, 1)", x.falls(0, 1, 1), 12);
    C.due("falls(0, 0, 1)", x.falls(0, 0, 1), 0);
    C.due("it falls no more", x.changed(3), 21);
    C.due("falls(0, 2, 1)", x.falls(0, 2, 1), 23);
    x.sign(0, 0);
    C.due("signed goes on", x.signed(2, NONE), 2);
  }

  private static void promise26() {
    C.part("promise 26");
    OutInTime x = Check.of("street A B 1 1;street B C 1 1;street C B 1 1;street D E 1 1;street E D 1 1;door A 0 1;");
    for (int place = 0; place < 8; place++) {
      C.due("no signs: ring(" + place + ")", x.ring(place), 0);
    }
    x.sign(0, 0);
    x.sign(1, 1);
    x.sign(2, 2);
    x.sign(3, 3);
    x.sign(4, 4);
    int[] due = {0, 1, 1, 0, 0, 0, 0, 0};
    for (int place = 0; place < 8; place++) {
      C.due("ring(" + place + ")", x.ring(place), due[place]);
    }
    C.due("ring(-1)", x.ring(-1), NONE);
    C.due("ring(8)", x.ring(8), NONE);
    x.change(1, 1, NONE);
    C.due("without changes", x.ring(1), 1);
    x.sign(2, NONE);
    C.due("ring(1)", x.ring(1), 0);
    x = Check.of("street A B 1 1;street B C 1 1;street C D 1 1;street D E 1 1;street E F 1 1;street F G 1 1;"
        + "street G H 1 1;street H A 1 1;street H G 1 1;door E 12 1;");
    for (int place = 0; place < 8; place++) {
      x.sign(place, place);
    }
    for (int place = 0; place < 8; place++) {
      C.due("a ring of all", x.ring(place), 1);
    }
    x.sign(7, 8);
    C.due("ring(6)", x.ring(6), 1);
    C.due("ring(7)", x.ring(7), 1);
    C.due("ring(5)", x.ring(5), 0);
    C.due("ring(4)", x.ring(4), 0);
  }

  private static void promise27() {
    C.part("promise 27");
    OutInTime x = Check.of(LINE);
    C.due("signs(-1)", x.signs(NONE), 45);
    C.due("of like ones the first: signs(0)", x.signs(0), 0);
    C.due("signs(1)", x.signs(1), 1);
    C.due("signs(2)", x.signs(2), NONE);
    C.due("signs(8)", x.signs(8), NONE);
    C.due("signs(-2)", x.signs(-2), NONE);
    C.due("SIGNS are none still", x.signed(12, NONE), 0);
    x.change(0, 1, NONE);
    C.due("without changes", x.signs(NONE), 45);
    x = Check.of(TURN);
    C.due("TURN", x.signs(NONE), 24);
    C.due("TURN: signs(0)", x.signs(0), 1);
    C.due("TURN: signs(1)", x.signs(1), 0);
    x.turn(1);
    C.due("TURN, turned", x.signs(NONE), 33);
    C.due("TURN, turned: signs(0)", x.signs(0), 0);
    C.due("TURN, turned: signs(1)", x.signs(1), 2);
    // two pairs that do as well: the first place's lowest first
    x = Check.of("street A B 2 1;street A C 1 1;street C B 1 1;street C A 1 1;door A 0 1;safe B 1;");
    C.due("signs(0)", x.signs(0), 0);
    C.due("signs(2)", x.signs(2), 2);
    x = Check.of("street A C 1 1;street A B 1 1;street B C 1 1;street B A 1 1;door A 0 1;door B 0 1;safe C 1;");
    C.due("signs(-1)", x.signs(NONE), 12);
    C.due("signs(0)", x.signs(0), 0);
    C.due("signs(1)", x.signs(1), 2);
    x = Check.of("street H G 5 1;street H G 2 1;street H A 1 1;door H 0 1;safe G 1;");
    C.due("the last place: signs(7)", x.signs(7), 1);
    C.due("signs(-1)", x.signs(NONE), 11);
    C.due("without streets", Check.of("door A 3 4;safe A 9;").signs(NONE), 40);
  }

  private static void promises28And29() {
    C.part("promise 28");
    OutInTime x = Check.of(TURN);
    x.turn(1);
    x.sign(0, 0);
    x.sign(1, 2);
    x.change(0, 5, NONE);
    x.change(1, 2, 2);
    x.enter(0, 0, 3);
    x.slow(1, 1, 1);
    C.due("image()", x.image(), 3);
    C.due("it changes nothing", x.street(0, 7), 1);
    C.due("signed(2, -1)", x.signed(2, NONE), 3);
    x.change(0, 6, 0);
    x.enter(0, 1, 3);
    x.sign(0, NONE);
    x.turn(0);
    Check.read(x, QUARREL + "hold B 1;");
    x.change(1, 3, NONE);
    Check.read(x, "safe A 0;");
    Check.tape(x, "safe A 9;");

    C.part("promise 29");
    for (int time = 0; time < 2; time++) {
      C.due("ahead of it: most(12)", x.most(12), time == 0 ? 2 : 3);
      C.due("ahead of it: all(12, 0)", x.all(12, 0), time == 0 ? 21 : 24);
      C.due("ahead of it: signs(-1)", x.signs(NONE), time == 0 ? 21 : 24);
      C.due("ahead of it: turned(0)", x.turned(0), time == 0 ? 0 : 1);
      C.due("back()", x.back(), 3);
      C.due("street(0, 7)", x.street(0, 7), 1);
      C.due("street(0, 0)", x.street(0, 0), 0);
      C.due("signed(2, -1)", x.signed(2, NONE), 3);
      C.due("about(6)", x.about(6), 2);
      C.due("about(1)", x.about(1), 1);
      C.due("about(5)", x.about(5), 6);
      C.due("all(12, 0)", x.all(12, 0), 33);
      C.due("changed(4)", x.changed(4), 33);
      C.due("place(1, 0)", x.place(1, 0), 99);
      C.due("judged(3)", x.judged(3), 2);
      C.due("quick()", x.quick(), 2);
      C.due("turned(0)", x.turned(0), 1);
      C.due("signs(-1)", x.signs(NONE), 33);
      C.due("the tape stays", x.about(4), 9);
      C.due("the fault stays", x.fault(0), 2);
      x.enter(0, 0, 0);
      x.slow(1, 1, 0);
      x.sign(1, NONE);
      x.turn(0);
      x.change(0, 5, 1);
      x.change(1, 2, NONE);
      x.change(1, 1, NONE);
    }
    changesComeBack();
    Check.read(x, "");
    C.due("an image of nothing", x.image(), 0);
    Check.read(x, LINE);
    C.due("back()", x.back(), 0);
    C.due("most(12)", x.most(12), 0);
  }

  private static void changesComeBack() {
    OutInTime x = Check.of("street A B 1 1;street A C 1 1;door A 0 9;door D 0 9;safe B 99;street D B 1 9;");
    x.change(0, 2, 0);
    x.change(0, 4, 1);
    x.change(3, 6, 2);
    x.image();
    int[] before = seenOf(x);
    C.due("of A and D by 12", x.signed(12, NONE), 11);
    Check.read(x, "street D B 1 9;door D 0 9;safe B 5;");
    for (int minute = 12; minute >= 5; minute--) {
      x.change(3, minute, 0);
    }
    x.back();
    int[] after = seenOf(x);
    for (int i = 0; i < before.length; i++) {
      C.due("as it was: signed " + i, after[i], before[i]);
    }
    x.change(0, 2, 1);
    x.change(0, 4, 0);
    C.due("other streets", x.signed(12, NONE), 16);
    x.back();
    after = seenOf(x);
    for (int i = 0; i < before.length; i++) {
      C.due("as it was: signed " + i, after[i], before[i]);
    }
  }

  private static int[] seenOf(OutInTime x) {
    int[] seen = new int[13 * 10];
    for (int i = 0; i < seen.length; i++) {
      seen[i] = x.signed(i / 10, i % 10 - 1);
    }
    return seen;
  }

  private static void promise30() {
    C.part("promise 30");
    OutInTime x = Check.of("street A B 1 1;street B C 1 1;turns 1;turns 0;door A 0 7;door B 1 8;slow 1;hold C 1;");
    x.change(0, 1, 0);
    x.feed(0, 0, 0, 0, 0);
    int[] due = {2, 2, 15, 2, 20, 8, 1, 8};
    for (int what = 0; what < 8; what++) {
      C.due("about(" + what + ")", x.about(what), due[what]);
    }
    C.due("the first door's are slow", Check.of("door A 0 7;slow 0;door B 1 8;").about(7), 7);
    C.due("about(8)", x.about(8), NONE);
    C.due("about(-1)", x.about(-1), NONE);
    C.due("about(HIGH)", x.about(HIGH), NONE);
    C.due("about(LOW)", x.about(LOW), NONE);
  }
}
