/** The example of README.md, each answer as it is told there. */
public final class ReadmeTest {
  private static final Check CHECK = new Check();

  public static void main(String[] args) {
    OutInTime x = new OutInTime();
    x.feed(0x73747265, 0x65742041, 0x20422031, 0x20323b73, 0x74726565);
    x.feed(0x74204220, 0x43203120, 0x313b7361, 0x66652043, 0x20393b64);
    x.feed(0x6f6f7220, 0x41203020, 0x333b0000, 0, 0);
    CHECK.due("end(50)", x.end(50), 50);
    CHECK.due("town()", x.town(), 2);
    CHECK.due("most(2)", x.most(2), 1);
    CHECK.due("quick()", x.quick(), 4);
    CHECK.due("cut(2, 0, 0)", x.cut(2, 0, 0), 1);
    CHECK.due("wider(3, 0)", x.wider(3, 0), 1);
    CHECK.due("wave(0, 1, -1, -1, 0, 2, 1)", x.wave(0, 1, -1, -1, 0, 2, 1), true);
    CHECK.due("judged(0)", x.judged(0), 0);
    CHECK.due("judged(14)", x.judged(10 + 4), 3);
    CHECK.due("piece(-1, 0)", x.piece(-1, 0), 3);
    CHECK.due("sign(0, 0)", x.sign(0, 0), true);
    CHECK.due("sign(1, 1)", x.sign(1, 1), true);
    CHECK.due("signed(12, -1)", x.signed(12, -1), 3);
    CHECK.due("image()", x.image(), 2);
    CHECK.due("sign(1, -1)", x.sign(1, -1), true);
    CHECK.due("signed(12, -1) without a sign at B", x.signed(12, -1), 0);
    CHECK.due("back()", x.back(), 2);
    CHECK.due("signed(12, -1) behind back()", x.signed(12, -1), 3);
    CHECK.finish();
  }
}
