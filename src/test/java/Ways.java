import java.util.ArrayList;
import java.util.Arrays;
import java.util.HashSet;
import java.util.List;
import java.util.Set;

/** All ways of going of a tiny town, gone one by one: which numbers can be out by each minute. */
final class Ways {
  private final Plan plan;
  private final int last;
  private final int slower;
  private Set<List<Integer>> next;

  /** Outs by 0 .. last, a row for each way. */
  final Set<List<Integer>> outs = new HashSet<>();

  // a state is: behind doors | in places | on streets (place, minutes to go 1 .. 6) | safe left | out by each minute
  private final int doorsAt = 0;
  private final int placesAt;
  private final int comingAt;
  private final int safeAt;
  private final int outAt;

  Ways(Plan plan, int last) {
    this(plan, last, 0);
  }

  private Ways(Plan plan, int last, int slower) {
    this.plan = plan;
    this.last = last;
    this.slower = slower;
    placesAt = plan.doors.size();
    comingAt = placesAt + 8;
    safeAt = comingAt + 8 * 7;
    outAt = safeAt + 8;
    Integer[] first = new Integer[outAt + last + 1];
    Arrays.fill(first, 0);
    for (int i = 0; i < plan.doors.size(); i++) {
      first[doorsAt + i] = plan.doors.get(i).people;
    }
    for (int p = 0; p < 8; p++) {
      first[safeAt + p] = plan.safe[p];
    }
    Set<List<Integer>> states = new HashSet<>();
    states.add(Arrays.asList(first));
    for (int t = 0; t <= last; t++) {
      next = new HashSet<>();
      for (List<Integer> state : states) {
        Integer[] now = state.toArray(new Integer[0]);
        for (int p = 0; p < 8; p++) {
          now[placesAt + p] += now[comingAt + p * 7];
          for (int k = 0; k < 6; k++) {
            now[comingAt + p * 7 + k] = now[comingAt + p * 7 + k + 1];
          }
          now[comingAt + p * 7 + 6] = 0;
        }
        if (t > 0) {
          now[outAt + t] = now[outAt + t - 1];
        }
        comeOut(now, t, 0);
      }
      states = next;
    }
    for (List<Integer> state : states) {
      outs.add(new ArrayList<>(state.subList(outAt, outAt + last + 1)));
    }
  }

  private void comeOut(Integer[] state, int t, int door) {
    if (door == plan.doors.size()) {
      goOut(state, t, 0);
      return;
    }
    int most = plan.doors.get(door).minute <= t ? state[doorsAt + door] : 0;
    for (int n = 0; n <= most; n++) {
      Integer[] now = state.clone();
      now[doorsAt + door] -= n;
      now[placesAt + plan.doors.get(door).place] += n;
      comeOut(now, t, door + 1);
    }
  }

  private void goOut(Integer[] state, int t, int place) {
    if (place == 8) {
      enter(state, t, 0);
      return;
    }
    int most = Math.min(state[placesAt + place], state[safeAt + place]);
    for (int n = 0; n <= most; n++) {
      Integer[] now = state.clone();
      now[placesAt + place] -= n;
      now[safeAt + place] -= n;
      now[outAt + t] += n;
      goOut(now, t, place + 1);
    }
  }

  private void enter(Integer[] state, int t, int street) {
    if (street == plan.streets.size()) {
      for (int p = 0; p < 8; p++) {
        if (state[placesAt + p] > plan.hold[p]) {
          return;
        }
      }
      next.add(Arrays.asList(state));
      return;
    }
    Plan.Street s = plan.streets.get(street);
    int most = t >= s.opens && t <= s.closes ? Math.min(s.width, state[placesAt + s.from]) : 0;
    for (int n = 0; n <= most; n++) {
      Integer[] now = state.clone();
      now[placesAt + s.from] -= n;
      now[comingAt + s.to * 7 + s.minutes + slower - 1] += n;
      enter(now, t, street + 1);
    }
  }

  int most(int t) {
    int most = 0;
    for (List<Integer> way : outs) {
      most = Math.max(most, way.get(t));
    }
    return most;
  }

  int bestSum(int t) {
    int best = 0;
    for (List<Integer> way : outs) {
      int sum = 0;
      for (int i = 0; i <= t; i++) {
        sum += way.get(i);
      }
      best = Math.max(best, sum);
    }
    return best;
  }

  boolean quarrel(int first, int second) {
    for (List<Integer> way : outs) {
      if (way.get(first) == most(first) && way.get(second) == most(second)) {
        return false;
      }
    }
    return true;
  }

  /** Those of one kind alone: slow ones have streets that are longer and narrower. */
  static Ways ofKind(Plan plan, int last, boolean slow) {
    Plan alone = plan.turned(0);
    alone.doors.removeIf(door -> door.slow != slow);
    for (Plan.Street street : alone.streets) {
      street.width = slow ? street.width / 2 : street.width;
    }
    return new Ways(alone, last, slow ? 1 : 0);
  }
}
