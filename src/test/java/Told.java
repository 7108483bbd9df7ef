import java.util.ArrayList;
import java.util.Arrays;
import java.util.List;

/** All that an image keeps, as the tests know it: enough to tell a new object the same. */
final class Told {
  private static final int NONE = OutInTime.NONE;

  private Plan plan = new Plan();
  private int turned = 0;
  private final int[] signs = new int[8];
  private final List<int[]> changes = new ArrayList<>();
  private int[][] plain = new int[16][13];
  private int[][] slow = new int[16][13];

  Told() {
    Arrays.fill(signs, NONE);
  }

  Told copy() {
    Told other = new Told();
    other.plan = plan;
    other.turned = turned;
    System.arraycopy(signs, 0, other.signs, 0, 8);
    for (int[] change : changes) {
      other.changes.add(change.clone());
    }
    other.plain = copyOf(plain);
    other.slow = copyOf(slow);
    return other;
  }

  private static int[][] copyOf(int[][] way) {
    int[][] other = new int[16][];
    for (int s = 0; s < 16; s++) {
      other[s] = way[s].clone();
    }
    return other;
  }

  static Told ofTown(Plan plan) {
    Told told = new Told();
    told.plan = plan;
    return told;
  }

  int streets() {
    return plan.streets.size();
  }

  int turnable() {
    return plan.turnable();
  }

  private boolean isStreet(int street) {
    return street >= 0 && street < streets();
  }

  int from(int street) {
    Plan.Street s = plan.streets.get(street);
    return (turned >> street & 1) == 1 ? s.to : s.from;
  }

  int to(int street) {
    Plan.Street s = plan.streets.get(street);
    return (turned >> street & 1) == 1 ? s.from : s.to;
  }

  boolean turn(int set) {
    if ((set & ~turnable()) != 0) {
      return false;
    }
    for (int s = 0; s < streets(); s++) {
      if ((turned >> s & 1) != (set >> s & 1)) {
        pointNowhereInPlaceOf(s);
      }
    }
    turned = set;
    return true;
  }

  private void pointNowhereInPlaceOf(int street) {
    for (int p = 0; p < 8; p++) {
      signs[p] = signs[p] == street ? NONE : signs[p];
    }
    for (int[] change : changes) {
      change[2] = change[2] == street ? NONE : change[2];
    }
  }

  private boolean canPoint(int place, int street) {
    return place >= 0 && place < 8 && (street == NONE || isStreet(street) && from(street) == place);
  }

  boolean sign(int place, int street) {
    boolean can = canPoint(place, street);
    if (can) {
      signs[place] = street;
    }
    return can;
  }

  boolean change(int place, int minute, int street) {
    if (!canPoint(place, street) || minute < 1 || minute > 12) {
      return false;
    }
    for (int[] change : changes) {
      if (change[0] == place && change[1] == minute) {
        change[2] = street;
        return true;
      }
    }
    return changes.size() < 8 && changes.add(new int[] {place, minute, street});
  }

  boolean enter(boolean slowly, int street, int minute, int n) {
    if (!isStreet(street) || minute < 0 || minute > 12 || n < 0 || n > 30) {
      return false;
    }
    (slowly ? slow : plain)[street][minute] = n;
    return true;
  }

  /** line: streets, the last ones NONE. */
  boolean wave(int[] line, int from, int till, int n) {
    int end = 4;
    while (end > 0 && line[end - 1] == NONE) {
      end--;
    }
    if (end == 0 || from < 0 || from > till || till > 12 || n < 1 || n > 30) {
      return false;
    }
    int[][] after = copyOf(plain);
    int later = 0;
    for (int k = 0; k < end; k++) {
      if (!isStreet(line[k]) || k > 0 && to(line[k - 1]) != from(line[k])) {
        return false;
      }
      for (int t = from + later; t <= till + later; t++) {
        if (t > 12 || after[line[k]][t] + n > 30) {
          return false;
        }
        after[line[k]][t] += n;
      }
      later += plan.streets.get(line[k]).minutes;
    }
    plain = after;
    return true;
  }

  /** A new object, told all of this and nothing else. */
  OutInTime toNew() {
    OutInTime x = Check.of(plan.text());
    x.turn(turned);
    for (int p = 0; p < 8; p++) {
      x.sign(p, signs[p]);
    }
    for (int[] change : changes) {
      x.change(change[0], change[1], change[2]);
    }
    for (int s = 0; s < streets(); s++) {
      for (int t = 0; t <= 12; t++) {
        if (plain[s][t] > 0) {
          x.enter(s, t, plain[s][t]);
        }
        if (slow[s][t] > 0) {
          x.slow(s, t, slow[s][t]);
        }
      }
    }
    return x;
  }
}
