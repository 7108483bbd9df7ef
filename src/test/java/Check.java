/** Counts and prints the calls whose answer is not the one that is due. */
final class Check {
  private int wrong = 0;
  private String part = "";

  void part(String name) {
    part = name;
  }

  void due(String call, int got, int want) {
    if (got != want) {
      wrong++;
      if (wrong <= 40) {
        System.out.println(part + ": " + call + " answered " + got + ", due is " + want);
      }
    }
  }

  void due(String call, boolean got, boolean want) {
    due(call, got ? 1 : 0, want ? 1 : 0);
  }

  void finish() {
    System.out.println(wrong == 0 ? "all answers are as due" : wrong + " answers are not as due");
    if (wrong != 0) {
      System.exit(1);
    }
  }

  /** Puts a text on the tape alone. */
  static void tape(OutInTime x, String text) {
    x.end(0);
    for (int at = 0; at < text.length(); at += 20) {
      int[] five = new int[5];
      for (int i = 0; i < 20; i++) {
        int sign = at + i < text.length() ? text.charAt(at + i) & 255 : 0;
        five[i / 4] |= sign << (24 - i % 4 * 8);
      }
      x.feed(five[0], five[1], five[2], five[3], five[4]);
    }
    if (x.end(text.length()) != text.length()) {
      throw new IllegalStateException("a text too long for the tape: " + text);
    }
  }

  static int read(OutInTime x, String text) {
    tape(x, text);
    return x.town();
  }

  static OutInTime of(String text) {
    OutInTime x = new OutInTime();
    if (read(x, text) == OutInTime.NONE) {
      throw new IllegalStateException("a fault " + x.fault(0) + " at " + x.fault(1) + " in " + text);
    }
    return x;
  }
}
