import java.util.ArrayList;
import java.util.List;

/** People gone one by one: by signs, and by a way told. */
final class Crowd {
  private static final class One {
    final int door;
    final boolean slow;
    int place;
    /** The minute from which on this one is there. */
    int there;
    boolean behind = true;
    boolean out = false;

    One(int door, Plan.Door d) {
      this.door = door;
      slow = d.slow;
      place = d.place;
      there = d.minute;
    }
  }

  private final Plan plan;
  private final List<One> ones = new ArrayList<>();
  private final int[] takes;

  private Crowd(Plan plan) {
    this.plan = plan;
    takes = plan.safe.clone();
    for (int i = 0; i < plan.doors.size(); i++) {
      for (int n = 0; n < plan.doors.get(i).people; n++) {
        ones.add(new One(i, plan.doors.get(i)));
      }
    }
  }

  /** signs[place][minute]; of minute t: 0 .. 7 in places, 8 on streets, 9 out. */
  static int[][] walk(Plan plan, int[][] signs, int fallen, int fallMinute) {
    Crowd crowd = new Crowd(plan);
    int[][] seen = new int[13][10];
    for (int t = 0; t <= 12; t++) {
      for (One one : crowd.ones) {
        if (!one.out && one.there <= t && crowd.takes[one.place] > 0) {
          one.out = true;
          crowd.takes[one.place]--;
        }
      }
      int[] entered = new int[16];
      for (One one : crowd.ones) {
        int s = signs[one.place][t];
        if (one.out || one.there > t || s < 0 || s == fallen && t >= fallMinute) {
          continue;
        }
        Plan.Street street = plan.streets.get(s);
        if (t >= street.opens && t <= street.closes && entered[s] < street.width) {
          entered[s]++;
          one.place = street.to;
          one.there = t + street.minutes;
          one.behind = false;
        }
      }
      for (One one : crowd.ones) {
        if (one.out) {
          seen[t][9]++;
        } else if (one.there <= t) {
          seen[t][one.place]++;
        } else if (!one.behind) {
          seen[t][8]++;
        }
      }
    }
    return seen;
  }

  static int sum(Plan plan, int[][] signs, int fallen, int fallMinute) {
    int sum = 0;
    for (int[] minute : walk(plan, signs, fallen, fallMinute)) {
      sum += minute[9];
    }
    return sum;
  }

  /** {bar, minute, at}, or {0, -1, -1}, out by 0 .. 12, slow out by 0 .. 12. */
  static int[] judge(Plan plan, int[][] plain, int[][] slow) {
    Crowd crowd = new Crowd(plan);
    int[] answer = new int[3 + 26];
    for (int t = 0; t <= 12; t++) {
      for (int s = 0; s < plan.streets.size(); s++) {
        Plan.Street street = plan.streets.get(s);
        boolean open = t >= street.opens && t <= street.closes;
        int wide = open ? street.width : 0;
        if (plain[s][t] + 2 * slow[s][t] > wide) {
          return new int[] {1, t, s};
        }
      }
      for (int p = 0; p < 8; p++) {
        int bar = crowd.judgePlace(p, t, plain, slow);
        if (bar != 0) {
          return new int[] {bar, t, p};
        }
      }
      for (One one : crowd.ones) {
        answer[3 + t] += one.out ? 1 : 0;
        answer[16 + t] += one.out && one.slow ? 1 : 0;
      }
    }
    answer[1] = -1;
    answer[2] = -1;
    return answer;
  }

  private int judgePlace(int p, int t, int[][] plain, int[][] slow) {
    for (int s = 0; s < plan.streets.size(); s++) {
      Plan.Street street = plan.streets.get(s);
      for (int n = 0; street.from == p && n < plain[s][t] + slow[s][t]; n++) {
        boolean slowly = n >= plain[s][t];
        One one = first(p, t, slowly, false);
        if (one == null) {
          one = first(p, t, slowly, true);
        }
        if (one == null) {
          return 2;
        }
        one.behind = false;
        one.place = street.to;
        one.there = t + street.minutes + (slowly ? 1 : 0);
      }
    }
    // in streets of a minute nobody comes to a place at once, so who is there now was there before
    sendOut(p, t, false, false);
    sendOut(p, t, true, false);
    for (int door = 0; door < plan.doors.size(); door++) {
      for (One one : ones) {
        if (one.door == door && one.behind && canGoOut(one, p, t)) {
          goOut(one);
        }
      }
    }
    int wait = 0;
    for (One one : ones) {
      wait += !one.behind && !one.out && one.place == p && one.there <= t ? 1 : 0;
    }
    return wait > plan.hold[p] ? 3 : 0;
  }

  private One first(int p, int t, boolean slow, boolean behind) {
    for (One one : ones) {
      if (!one.out && one.place == p && one.there <= t && one.slow == slow && one.behind == behind) {
        return one;
      }
    }
    return null;
  }

  private boolean canGoOut(One one, int p, int t) {
    return !one.out && one.place == p && one.there <= t && takes[p] > 0;
  }

  private void goOut(One one) {
    one.out = true;
    one.behind = false;
    takes[one.place]--;
  }

  private void sendOut(int p, int t, boolean slow, boolean behind) {
    for (One one : ones) {
      if (one.slow == slow && one.behind == behind && canGoOut(one, p, t)) {
        goOut(one);
      }
    }
  }
}
