/** Runs of calls in any order: behind each an object answers as a new one that was told the end of it alone. */
public final class RunsTest {
  private static final Check CHECK = new Check();
  private static final int NONE = OutInTime.NONE;

  private final Dice dice;
  private final OutInTime x = new OutInTime();
  private Told now = new Told();
  private Told image = new Told();

  private RunsTest(int seed) {
    dice = new Dice(60000 + seed);
  }

  public static void main(String[] args) {
    for (int seed = 0; seed < 400; seed++) {
      CHECK.part("run " + seed);
      new RunsTest(seed).go(seed % 2 == 1);
    }
    CHECK.finish();
  }

  private void go(boolean toTheImage) {
    town();
    for (int n = 0; n < 120; n++) {
      step();
    }
    if (toTheImage) {
      back();
    }
    Scene.nowAlike(CHECK, "behind the run", x, now.toNew());
  }

  private void step() {
    switch (dice.upTo(24)) {
      case 0:
        townSeldom();
        break;
      case 1:
        CHECK.due("image()", x.image(), now.streets());
        image = now.copy();
        break;
      case 2:
        back();
        break;
      case 3:
      case 4:
        turn();
        break;
      case 5:
      case 6:
      case 7:
        sign();
        break;
      case 8:
      case 9:
        change();
        break;
      case 10:
      case 11:
        enter(dice.upTo(2) == 0);
        break;
      case 12:
      case 13:
        wave();
        break;
      default:
        ask();
    }
  }

  /** Not so often that nothing is told of one town. */
  private void townSeldom() {
    switch (dice.upTo(5)) {
      case 0:
        town();
        break;
      case 1:
        CHECK.due("town() of a fault", Check.read(x, "street A B 1 1;safe A 5;door B 0 0;"), NONE);
        break;
      default:
        ask();
    }
  }

  private void town() {
    Plan plan = Plan.random(dice, 2 + dice.upTo(4), 12, 4, 12);
    CHECK.due("town()", Check.read(x, plan.text()), plan.streets.size());
    now = Told.ofTown(plan);
  }

  private void back() {
    CHECK.due("back()", x.back(), image.streets());
    now = image.copy();
  }

  private void turn() {
    int set = dice.upTo(65535) & now.turnable();
    if (dice.upTo(9) == 0) {
      set ^= 1 << dice.upTo(31);
    }
    CHECK.due("turn(" + set + ")", x.turn(set), now.turn(set));
  }

  private int place() {
    return dice.upTo(9) == 0 ? dice.upTo(9) - 1 : dice.upTo(4);
  }

  /** Mostly one from a place, if there is any. */
  private int streetFrom(int place) {
    int street = dice.upTo(now.streets() + 1) - 1;
    for (int tries = 0; tries < 12 && dice.upTo(20) > 0; tries++) {
      if (street >= 0 && street < now.streets() && now.from(street) == place) {
        return street;
      }
      street = dice.upTo(now.streets() + 1) - 1;
    }
    return street;
  }

  private void sign() {
    int place = place();
    int street = streetFrom(place);
    CHECK.due("sign(" + place + ", " + street + ")", x.sign(place, street), now.sign(place, street));
  }

  private void change() {
    int place = place();
    int street = streetFrom(place);
    int minute = dice.upTo(9) == 0 ? dice.upTo(14) : 1 + dice.upTo(6);
    boolean due = now.change(place, minute, street);
    CHECK.due("change(" + place + ", " + minute + ", " + street + ")", x.change(place, minute, street), due);
  }

  private void enter(boolean slowly) {
    int street = dice.upTo(now.streets() + 1) - 1;
    int minute = dice.upTo(14) - 1;
    int n = dice.upTo(4) == 0 ? dice.upTo(33) - 1 : dice.upTo(2);
    boolean due = now.enter(slowly, street, minute, n);
    boolean got = slowly ? x.slow(street, minute, n) : x.enter(street, minute, n);
    CHECK.due((slowly ? "slow(" : "enter(") + street + ", " + minute + ", " + n + ")", got, due);
  }

  private void wave() {
    int[] line = {dice.upTo(now.streets()), NONE, NONE, NONE};
    for (int k = 1; k <= dice.upTo(3); k++) {
      int ahead = line[k - 1];
      boolean there = ahead >= 0 && ahead < now.streets();
      line[k] = streetFrom(there ? now.to(ahead) : dice.upTo(7));
    }
    int from = dice.upTo(9) - 1;
    int till = from + dice.upTo(5) - 1;
    int n = dice.upTo(6) == 0 ? dice.upTo(31) : 1 + dice.upTo(2);
    boolean due = now.wave(line, from, till, n);
    boolean got = x.wave(line[0], line[1], line[2], line[3], from, till, n);
    CHECK.due("wave(" + line[0] + ", " + line[1] + ", " + line[2] + ", " + line[3] + ", " + from + ", " + till
        + ", " + n + ")", got, due);
  }

  /** What is asked is kept by some calls; what is told behind it is not to be answered by that. */
  private void ask() {
    int t = dice.upTo(12);
    x.most(t);
    x.all(t, dice.upTo(3));
    x.turned(0);
    x.wider(t, 0);
    x.kinds(t, dice.upTo(2));
    x.judged(0);
    x.piece(dice.upTo(3) - 1, 0);
    x.signed(t, dice.upTo(8));
    x.changed(0);
    x.falls(dice.upTo(now.streets()), t, dice.upTo(1));
    x.signs(dice.upTo(8) - 1);
  }
}
