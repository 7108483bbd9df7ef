/** The same throws each time: a run that fails fails again. */
final class Dice {
  private long seed;

  Dice(long seed) {
    this.seed = seed * 7919 + 17;
  }

  /** One of 0 .. most. */
  int upTo(int most) {
    seed = seed * 6364136223846793005L + 1442695040888963407L;
    return most <= 0 ? 0 : (int) ((seed >>> 33) % (most + 1));
  }
}
