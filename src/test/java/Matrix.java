import java.util.Arrays;

/** A town over time as a matrix of rooms, filled one by one along the way of most gain. */
final class Matrix {
  private static final int SOURCE = 118;
  private static final int SINK = 119;
  private static final int NODES = 120;

  private final int[][] room = new int[NODES][NODES];
  private final int[][] gain = new int[NODES][NODES];

  static int node(int place, int minute) {
    return place * 13 + minute;
  }

  /** worth: what an out at each minute counts. */
  Matrix(Plan plan, int last, int[] worth) {
    for (int i = 0; i < plan.doors.size(); i++) {
      Plan.Door door = plan.doors.get(i);
      room[SOURCE][104 + i] = door.people;
      for (int t = door.minute; t <= last; t++) {
        room[104 + i][node(door.place, t)] = 99;
      }
    }
    for (int p = 0; p < 8; p++) {
      room[110 + p][SINK] = plan.safe[p];
      for (int t = 0; t <= last; t++) {
        room[node(p, t)][110 + p] = 99;
        gain[node(p, t)][110 + p] = worth[t];
        gain[110 + p][node(p, t)] = -worth[t];
        if (t < last) {
          room[node(p, t)][node(p, t + 1)] += plan.hold[p];
        }
      }
    }
    for (Plan.Street street : plan.streets) {
      for (int t = street.opens; t <= street.closes && t + street.minutes <= last; t++) {
        room[node(street.from, t)][node(street.to, t + street.minutes)] += street.width;
      }
    }
  }

  static int[] ones() {
    int[] worth = new int[13];
    Arrays.fill(worth, 1);
    return worth;
  }

  static int most(Plan plan, int t) {
    return new Matrix(plan, t, ones()).fill();
  }

  /** The same as most, one by one along any way: quicker, so that more towns can be asked. */
  static int number(Plan plan, int t) {
    Matrix matrix = new Matrix(plan, t, ones());
    int sum = 0;
    while (matrix.sendOne()) {
      sum++;
    }
    return sum;
  }

  private boolean sendOne() {
    int[] before = new int[NODES];
    Arrays.fill(before, -1);
    before[SOURCE] = SOURCE;
    int[] queue = new int[NODES];
    queue[0] = SOURCE;
    int last = 1;
    for (int i = 0; i < last && before[SINK] < 0; i++) {
      int u = queue[i];
      for (int v = 0; v < NODES; v++) {
        if (room[u][v] > 0 && before[v] < 0) {
          before[v] = u;
          queue[last] = v;
          last++;
        }
      }
    }
    if (before[SINK] < 0) {
      return false;
    }
    for (int v = SINK; v != SOURCE; v = before[v]) {
      room[before[v]][v]--;
      room[v][before[v]]++;
    }
    return true;
  }

  static int bestSum(Plan plan, int t) {
    int[] worth = new int[13];
    for (int m = 0; m <= t; m++) {
      worth[m] = t - m + 1;
    }
    return new Matrix(plan, t, worth).fill();
  }

  static boolean quarrel(Plan plan, int first, int second) {
    int[] worth = new int[13];
    for (int m = 0; m <= second; m++) {
      worth[m] = m <= first ? 2 : 1;
    }
    return new Matrix(plan, second, worth).fill() < most(plan, first) + most(plan, second);
  }

  static int quick(Plan plan) {
    for (int t = 0; t <= 12; t++) {
      if (most(plan, t) == plan.people()) {
        return t;
      }
    }
    return -1;
  }

  /** In the cut are those from which, were there a way out from them, one more could go. */
  static boolean isCut(Plan plan, int t, int place, int minute) {
    Matrix matrix = new Matrix(plan, t, ones());
    matrix.room[node(place, minute)][SINK] = 1;
    matrix.gain[node(place, minute)][SINK] = 1;
    matrix.gain[SINK][node(place, minute)] = -1;
    return matrix.fill() > most(plan, t);
  }

  private int fill() {
    int sum = 0;
    while (true) {
      int[] far = new int[NODES];
      int[] before = new int[NODES];
      Arrays.fill(far, Integer.MIN_VALUE);
      far[SOURCE] = 0;
      for (boolean grows = true; grows;) {
        grows = false;
        for (int u = 0; u < NODES; u++) {
          for (int v = 0; v < NODES && far[u] != Integer.MIN_VALUE; v++) {
            if (room[u][v] > 0 && far[u] + gain[u][v] > far[v]) {
              far[v] = far[u] + gain[u][v];
              before[v] = u;
              grows = true;
            }
          }
        }
      }
      if (far[SINK] <= 0) {
        return sum;
      }
      for (int v = SINK; v != SOURCE; v = before[v]) {
        room[before[v]][v]--;
        room[v][before[v]]++;
      }
      sum += far[SINK];
    }
  }
}
