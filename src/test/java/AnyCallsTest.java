/** Calls of any kind in any state: none throws, and what is asked twice is answered alike. */
public final class AnyCallsTest {
  private static final Check CHECK = new Check();
  private static final String[] WORDS = {
    "hold", "street", "open", "turns", "door", "safe", "slow", ";", "A", "B", "C", "H", "I", "AB", "0", "1", "2",
    "5", "9", "12", "13", "30", "99", "100", "99999999999", ".", "\n", "\u0000", "\u00ff",
  };

  public static void main(String[] args) {
    for (int seed = 0; seed < 300; seed++) {
      Dice dice = new Dice(9000 + seed);
      CHECK.part("any calls " + seed);
      OutInTime x = new OutInTime();
      OutInTime y = new OutInTime();
      for (int n = 0; n < 250; n++) {
        int kind = dice.upTo(39);
        int[] v = new int[7];
        for (int i = 0; i < 7; i++) {
          v[i] = wild(dice);
        }
        if (kind == 0) {
          String text = text(dice);
          CHECK.due("town()", Check.read(x, text), Check.read(y, text));
        } else {
          int answer = call(x, kind, v);
          CHECK.due("the call " + kind + " of another object", call(y, kind, v), answer);
          if (isAsked(kind)) {
            CHECK.due("the call " + kind + " once more", call(x, kind, v), answer);
          }
        }
      }
    }
    CHECK.finish();
  }

  private static int wild(Dice dice) {
    switch (dice.upTo(9)) {
      case 0:
        return Integer.MIN_VALUE + dice.upTo(2);
      case 1:
        return Integer.MAX_VALUE - dice.upTo(2);
      case 2:
        return dice.upTo(500) - 250;
      case 3:
        return dice.upTo(44) - 1;
      default:
        return dice.upTo(14) - 1;
    }
  }

  private static String text(Dice dice) {
    if (dice.upTo(3) > 0) {
      return Plan.random(dice, 2 + dice.upTo(6), 14, 6, 25).text();
    }
    StringBuilder s = new StringBuilder();
    int words = dice.upTo(12);
    for (int i = 0; i < words; i++) {
      s.append(WORDS[dice.upTo(WORDS.length - 1)]).append(dice.upTo(3) == 0 ? "" : " ");
    }
    return s.toString();
  }

  private static boolean isAsked(int kind) {
    return kind >= 12 && kind < 30;
  }

  private static int bit(boolean answer) {
    return answer ? 1 : 0;
  }

  private static int call(OutInTime x, int kind, int[] v) {
    switch (kind) {
      case 1:
        return x.feed(v[0], v[1], v[2], v[3], v[4]);
      case 2:
        return x.end(v[0]);
      case 3:
        return bit(x.turn(v[0]));
      case 4:
        return bit(x.enter(v[0], v[1], v[2]));
      case 5:
        return bit(x.wave(v[0], v[1], v[2], v[3], v[4], v[5], v[6]));
      case 6:
        return bit(x.slow(v[0], v[1], v[2]));
      case 7:
        return bit(x.sign(v[0], v[1]));
      case 8:
        return bit(x.change(v[0], v[1], v[2]));
      case 9:
        return x.image();
      case 10:
        return x.back();
      case 11:
        return x.town();
      case 12:
        return x.fault(v[0]);
      case 13:
        return x.street(v[0], v[1]);
      case 14:
        return x.place(v[0], v[1]);
      case 15:
        return x.most(v[0]);
      case 16:
        return x.cut(v[0], v[1], v[2]);
      case 17:
        return x.quick();
      case 18:
        return x.all(v[0], v[1]);
      case 19:
        return x.turned(v[0]);
      case 20:
        return x.wider(v[0], v[1]);
      case 21:
        return x.judged(v[0]);
      case 22:
        return x.piece(v[0], v[1]);
      case 23:
        return x.kinds(v[0], v[1]);
      case 24:
        return x.signed(v[0], v[1]);
      case 25:
        return x.changed(v[0]);
      case 26:
        return x.falls(v[0], v[1], v[2]);
      case 27:
        return x.ring(v[0]);
      case 28:
        return x.signs(v[0]);
      case 29:
        return x.about(v[0]);
      default:
        return call(x, 3 + (kind - 30) % 6, v);
    }
  }
}
