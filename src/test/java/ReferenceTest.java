import java.util.ArrayList;
import java.util.Arrays;
import java.util.List;

/** Random towns, each answer against one worked out another way. */
public final class ReferenceTest {
  private static final Check CHECK = new Check();
  private static OutInTime last = new OutInTime();

  public static void main(String[] args) {
    for (int seed = 0; seed < 400; seed++) {
      againstAllWays(seed);
    }
    for (int seed = 0; seed < 60; seed++) {
      againstMatrix(seed);
    }
    for (int seed = 0; seed < 700; seed++) {
      againstNumbers(seed);
    }
    for (int seed = 0; seed < 300; seed++) {
      againstCrowd(seed);
    }
    for (int seed = 0; seed < 2000; seed++) {
      againstJudge(seed);
    }
    for (int seed = 0; seed < 400; seed++) {
      againstWaves(seed);
    }
    CHECK.finish();
  }

  /** Some towns come behind another one in the same object: nothing of that is to be left. */
  private static OutInTime of(Plan plan, int seed) {
    if (seed % 5 == 0) {
      last = new OutInTime();
    }
    CHECK.due("town()", Check.read(last, plan.text()), plan.streets.size());
    return last;
  }

  private static void againstAllWays(int seed) {
    Dice dice = new Dice(seed);
    Plan plan = Plan.random(dice, 2 + dice.upTo(2), 4, 3, 2);
    for (Plan.Door door : plan.doors) {
      door.minute = Math.min(door.minute, 2);
    }
    OutInTime x = of(plan, seed);
    CHECK.part("all ways " + seed + " " + plan.text());
    int last = 5;
    Ways ways = new Ways(plan, last);
    Ways plain = Ways.ofKind(plan, last, false);
    Ways slow = Ways.ofKind(plan, last, true);
    for (int t = 0; t <= last; t++) {
      CHECK.due("most(" + t + ")", x.most(t), ways.most(t));
      CHECK.due("all(" + t + ", 0)", x.all(t, 0), ways.bestSum(t));
      int sum = 0;
      int pair = -1;
      for (int b = t; b >= 0; b--) {
        sum += ways.most(b);
      }
      for (int a = t; a >= 0; a--) {
        for (int b = t; b > a; b--) {
          pair = ways.quarrel(a, b) ? a * 13 + b : pair;
        }
      }
      CHECK.due("all(" + t + ", 1)", x.all(t, 1), sum == ways.bestSum(t) ? 1 : 0);
      CHECK.due("all(" + t + ", 2)", x.all(t, 2), pair < 0 ? -1 : pair / 13);
      CHECK.due("all(" + t + ", 3)", x.all(t, 3), pair < 0 ? -1 : pair % 13);
      CHECK.due("kinds(" + t + ", 0)", x.kinds(t, 0), plain.most(t));
      CHECK.due("kinds(" + t + ", 1)", x.kinds(t, 1), slow.most(t));
      int both = Math.min(ways.most(t), plain.most(t) + slow.most(t));
      CHECK.due("kinds(" + t + ", 2)", x.kinds(t, 2), both);
    }
  }

  private static void againstMatrix(int seed) {
    Dice dice = new Dice(1000 + seed);
    Plan plan = Plan.random(dice, 3 + dice.upTo(5), 14, 6, 20);
    OutInTime x = of(plan, seed);
    CHECK.part("matrix " + seed + " " + plan.text());
    int set = dice.upTo(1) == 0 ? plan.turnable() & dice.upTo(65535) : 0;
    CHECK.due("turn(" + set + ")", x.turn(set), true);
    Plan now = plan.turned(set);
    CHECK.due("quick()", x.quick(), Matrix.quick(now));
    for (int t = 0; t <= 12; t++) {
      CHECK.due("most(" + t + ")", x.most(t), Matrix.most(now, t));
      CHECK.due("all(" + t + ", 0)", x.all(t, 0), Matrix.bestSum(now, t));
    }
    checkCut(x, now, dice.upTo(12));
    checkCut(x, now, dice.upTo(5));
    checkWider(x, now, dice.upTo(12));
    checkQuarrel(x, now, dice.upTo(12));
    int best = -1;
    int bestSet = 0;
    for (int other = 0; other <= plan.turnable(); other++) {
      int quick = (other & ~plan.turnable()) == 0 ? Matrix.quick(plan.turned(other)) : -1;
      if (quick >= 0 && (best < 0 || quick < best)) {
        best = quick;
        bestSet = other;
      }
    }
    CHECK.due("turned(0)", x.turned(0), bestSet);
    CHECK.due("turned(1)", x.turned(1), best);
  }

  /** Crowded towns, in which many must give way to others. */
  private static void againstNumbers(int seed) {
    Dice dice = new Dice(700000 + seed);
    Plan plan = Plan.random(dice, 3 + dice.upTo(5), 16, 6, 25);
    OutInTime x = of(plan, seed);
    CHECK.part("numbers " + seed + " " + plan.text());
    for (int t = 6; t <= 12; t += 3) {
      CHECK.due("most(" + t + ")", x.most(t), Matrix.number(plan, t));
    }
    int street = dice.upTo(plan.streets.size());
    if (street < plan.streets.size()) {
      int t = 8 + dice.upTo(4);
      plan.streets.get(street).width++;
      int more = Matrix.number(plan, t) - x.most(t);
      boolean best = x.wider(t, 0) == street;
      CHECK.due("wider(" + t + ", 1) is no less than by " + street, more <= Math.max(0, x.wider(t, 1)), true);
      CHECK.due("wider(" + t + ", 1) by " + street, !best || more == x.wider(t, 1), true);
    }
  }

  private static void checkCut(OutInTime x, Plan now, int t) {
    for (int p = 0; p < 8; p++) {
      for (int m = 0; m <= t; m++) {
        CHECK.due("cut(" + t + ", " + p + ", " + m + ")", x.cut(t, p, m), Matrix.isCut(now, t, p, m) ? 1 : 0);
      }
    }
  }

  private static void checkWider(OutInTime x, Plan now, int t) {
    int street = -1;
    int more = -1;
    for (int s = now.streets.size() - 1; s >= 0; s--) {
      now.streets.get(s).width++;
      int grows = Matrix.most(now, t) - x.most(t);
      now.streets.get(s).width--;
      if (grows > 0 && grows >= more) {
        street = s;
        more = grows;
      }
    }
    CHECK.due("wider(" + t + ", 0)", x.wider(t, 0), street);
    CHECK.due("wider(" + t + ", 1)", x.wider(t, 1), more);
  }

  private static void checkQuarrel(OutInTime x, Plan now, int t) {
    int sum = 0;
    int pair = -1;
    for (int m = 0; m <= t; m++) {
      sum += x.most(m);
    }
    for (int a = 0; a <= t && pair < 0; a++) {
      for (int b = a + 1; b <= t && pair < 0; b++) {
        pair = Matrix.quarrel(now, a, b) ? a * 13 + b : -1;
      }
    }
    CHECK.due("all(" + t + ", 1)", x.all(t, 1), sum == x.all(t, 0) ? 1 : 0);
    CHECK.due("all(" + t + ", 2)", x.all(t, 2), pair < 0 ? -1 : pair / 13);
    CHECK.due("all(" + t + ", 3)", x.all(t, 3), pair < 0 ? -1 : pair % 13);
  }

  /** Changes as {place, minute, street}; the latest that is come to counts. */
  private static int[][] plan(int[] signs, List<int[]> changes) {
    int[][] plan = new int[8][13];
    for (int p = 0; p < 8; p++) {
      for (int t = 0; t <= 12; t++) {
        plan[p][t] = signs[p];
        int latest = 0;
        for (int[] change : changes) {
          if (change[0] == p && change[1] <= t && change[1] > latest) {
            latest = change[1];
            plan[p][t] = change[2];
          }
        }
      }
    }
    return plan;
  }

  private static void againstCrowd(int seed) {
    Dice dice = new Dice(2000 + seed);
    Plan told = Plan.random(dice, 3 + dice.upTo(5), 10, 5, 15);
    int set = dice.upTo(2) == 0 ? told.turnable() & dice.upTo(65535) : 0;
    Plan town = told.turned(set);
    OutInTime x = of(told, seed);
    CHECK.part("crowd " + seed + " " + told.text());
    CHECK.due("turn(" + set + ")", x.turn(set), true);
    int[] signs = new int[8];
    Arrays.fill(signs, -1);
    List<int[]> changes = new ArrayList<>();
    for (int n = 0; n < 20; n++) {
      if (dice.upTo(9) == 0) {
        set = told.turnable() & dice.upTo(65535);
        turn(x, told, set, town, signs, changes);
        town = told.turned(set);
      }
      tellSign(x, town, dice, signs, changes);
    }
    int[][] seen = Crowd.walk(town, plan(signs, changes), -1, 0);
    for (int t = 0; t <= 12; t++) {
      CHECK.due("signed(" + t + ", -1)", x.signed(t, -1), seen[t][9]);
      for (int p = 0; p <= 8; p++) {
        CHECK.due("signed(" + t + ", " + p + ")", x.signed(t, p), seen[t][p]);
      }
    }
    CHECK.due("about(6)", x.about(6), changes.size());
    checkRing(x, town, signs);
    checkChanged(x, town, signs, changes);
    checkSigns(x, town);
    for (int n = 0; n < 3 && town.streets.size() > 0; n++) {
      checkFalls(x, town, dice.upTo(town.streets.size() - 1), dice.upTo(12));
    }
  }

  /** Signs and changes to streets whose way changes are none then. */
  private static void turn(OutInTime x, Plan told, int set, Plan before, int[] signs, List<int[]> changes) {
    CHECK.due("turn(" + set + ")", x.turn(set), true);
    Plan after = told.turned(set);
    for (int s = 0; s < after.streets.size(); s++) {
      boolean other = after.streets.get(s).from != before.streets.get(s).from;
      for (int p = 0; p < 8 && other; p++) {
        signs[p] = signs[p] == s ? -1 : signs[p];
      }
      for (int[] change : changes) {
        change[2] = other && change[2] == s ? -1 : change[2];
      }
    }
  }

  private static void tellSign(OutInTime x, Plan town, Dice dice, int[] signs, List<int[]> changes) {
    int place = dice.upTo(8) - dice.upTo(1);
    int street = dice.upTo(town.streets.size() + 1) - 1;
    int minute = dice.upTo(13);
    boolean from = place >= 0 && place < 8
        && (street == -1 || street < town.streets.size() && town.streets.get(street).from == place);
    if (dice.upTo(1) == 0) {
      CHECK.due("sign(" + place + ", " + street + ")", x.sign(place, street), from);
      if (from) {
        signs[place] = street;
      }
      return;
    }
    boolean there = changes.removeIf(change -> from && change[0] == place && change[1] == minute);
    boolean can = from && minute >= 1 && minute <= 12 && (there || changes.size() < 8);
    CHECK.due("change(" + place + ", " + minute + ", " + street + ")", x.change(place, minute, street), can);
    if (can) {
      changes.add(new int[] {place, minute, street});
    }
  }

  private static void checkRing(OutInTime x, Plan town, int[] signs) {
    boolean[] ring = new boolean[8];
    for (Plan.Door door : town.doors) {
      int[] came = new int[8];
      int at = door.place;
      while (at >= 0 && came[at] < 2) {
        came[at]++;
        ring[at] |= came[at] == 2;
        at = signs[at] < 0 ? -1 : town.streets.get(signs[at]).to;
      }
    }
    for (int p = 0; p < 8; p++) {
      CHECK.due("ring(" + p + ")", x.ring(p), ring[p] ? 1 : 0);
    }
  }

  private static void checkChanged(OutInTime x, Plan town, int[] signs, List<int[]> changes) {
    int without = Crowd.sum(town, plan(signs, changes), -1, 0);
    int[] best = {-1, -1, -1, -1};
    int greatest = without;
    for (int p = 0; p < 8; p++) {
      for (int m = 1; m <= 12; m++) {
        for (int s = 0; s < town.streets.size(); s++) {
          int place = p;
          int minute = m;
          List<int[]> more = new ArrayList<>(changes);
          more.removeIf(change -> change[0] == place && change[1] == minute);
          more.add(new int[] {p, m, s});
          if (town.streets.get(s).from == p && more.size() <= 8) {
            int sum = Crowd.sum(town, plan(signs, more), -1, 0);
            if (sum > greatest) {
              greatest = sum;
              best = new int[] {p, m, s, sum};
            }
          }
        }
      }
    }
    for (int what = 0; what < 4; what++) {
      CHECK.due("changed(" + what + ")", x.changed(what), best[what]);
    }
    CHECK.due("changed(4)", x.changed(4), without);
  }

  /** All choices, the first one ahead, by the last place's streets changing fastest. */
  private static void choices(Plan town, int place, int[] choice, List<int[]> all) {
    if (place == 8) {
      all.add(choice.clone());
      return;
    }
    boolean any = false;
    for (int s = 0; s < town.streets.size(); s++) {
      if (town.streets.get(s).from == place) {
        any = true;
        choice[place] = s;
        choices(town, place + 1, choice, all);
      }
    }
    if (!any) {
      choice[place] = -1;
      choices(town, place + 1, choice, all);
    }
  }

  private static int[] bestSigns(Plan town) {
    List<int[]> all = new ArrayList<>();
    choices(town, 0, new int[8], all);
    int[] best = all.get(0);
    for (int[] choice : all) {
      if (sum(town, choice) > sum(town, best)) {
        best = choice;
      }
    }
    return best;
  }

  private static int sum(Plan town, int[] signs) {
    return Crowd.sum(town, plan(signs, List.of()), -1, 0);
  }

  private static void checkSigns(OutInTime x, Plan town) {
    int[] best = bestSigns(town);
    CHECK.due("signs(-1)", x.signs(-1), sum(town, best));
    for (int p = 0; p < 8; p++) {
      CHECK.due("signs(" + p + ")", x.signs(p), best[p]);
    }
  }

  private static void checkFalls(OutInTime x, Plan town, int street, int minute) {
    int[][] best = plan(bestSigns(town), List.of());
    List<int[]> all = new ArrayList<>();
    choices(town, 0, new int[8], all);
    int known = 0;
    int late = 0;
    for (int[] choice : all) {
      int[][] signs = plan(choice, List.of());
      known = Math.max(known, Crowd.sum(town, signs, street, minute));
      for (int p = 0; p < 8; p++) {
        System.arraycopy(best[p], 0, signs[p], 0, minute);
      }
      late = Math.max(late, Crowd.sum(town, signs, street, minute));
    }
    CHECK.due("falls(" + street + ", " + minute + ", 0)", x.falls(street, minute, 0), known);
    CHECK.due("falls(" + street + ", " + minute + ", 1)", x.falls(street, minute, 1), late);
  }

  private static void againstJudge(int seed) {
    Dice dice = new Dice(5000 + seed);
    Plan town = Plan.random(dice, 2 + dice.upTo(2), 5, 5, 6);
    for (Plan.Door door : town.doors) {
      door.minute = Math.min(door.minute, 3);
    }
    OutInTime x = of(town, seed);
    CHECK.part("judge " + seed + " " + town.text());
    int[][] plain = new int[16][13];
    int[][] slow = new int[16][13];
    for (int n = 0; n < 40 && town.streets.size() > 0; n++) {
      int s = dice.upTo(town.streets.size() - 1);
      int t = dice.upTo(9);
      boolean slowly = dice.upTo(2) == 0;
      int[][] way = slowly ? slow : plain;
      int before = way[s][t];
      int many = 1 + dice.upTo(slowly ? 1 : 2);
      way[s][t] = many;
      tell(x, slowly, s, t, many);
      int[] due = Crowd.judge(town, plain, slow);
      checkJudged(x, due);
      if (due[0] != 0 && dice.upTo(9) > 0) {
        // most that bars is taken back, so that ways grow lawful and long
        way[s][t] = before;
        tell(x, slowly, s, t, before);
      }
      checkPieces(x, town, plain);
    }
  }

  private static void againstWaves(int seed) {
    Dice dice = new Dice(8000 + seed);
    Plan town = Plan.random(dice, 2 + dice.upTo(1), 6, 1, 1);
    OutInTime x = of(town, seed);
    CHECK.part("waves " + seed + " " + town.text());
    int[][] told = new int[16][13];
    for (int n = 0; n < 60 && town.streets.size() > 0; n++) {
      int[] line = new int[4];
      Arrays.fill(line, -1);
      int place = dice.upTo(2);
      for (int k = 0; k < 1 + dice.upTo(3); k++) {
        line[k] = dice.upTo(town.streets.size() - 1);
        for (int tries = 0; tries < 6 && town.streets.get(line[k]).from != place; tries++) {
          line[k] = dice.upTo(town.streets.size() - 1);
        }
        place = town.streets.get(line[k]).to;
      }
      int from = dice.upTo(8);
      int till = from + dice.upTo(3);
      int many = 1 + dice.upTo(7);
      int[][] after = waved(town, told, line, from, till, many);
      boolean got = x.wave(line[0], line[1], line[2], line[3], from, till, many);
      CHECK.due("wave " + Arrays.toString(line) + from + ".." + till + " " + many, got, after != null);
      told = after != null ? after : told;
      if (n % 10 == 9) {
        checkPieces(x, town, told);
      }
    }
  }

  /** What is told with a wave more, or null if it can't be. */
  private static int[][] waved(Plan town, int[][] told, int[] line, int from, int till, int many) {
    int[][] after = new int[16][];
    for (int s = 0; s < 16; s++) {
      after[s] = told[s].clone();
    }
    for (int t = from; t <= till; t++) {
      int at = t;
      int place = -1;
      for (int s : line) {
        if (s < 0) {
          break;
        }
        Plan.Street street = town.streets.get(s);
        if (place >= 0 && street.from != place || at > 12) {
          return null;
        }
        after[s][at] += many;
        if (after[s][at] > 30) {
          return null;
        }
        at += street.minutes;
        place = street.to;
      }
    }
    return after;
  }

  private static void tell(OutInTime x, boolean slowly, int s, int t, int n) {
    CHECK.due("told", slowly ? x.slow(s, t, n) : x.enter(s, t, n), true);
  }

  private static void checkJudged(OutInTime x, int[] due) {
    for (int what = 0; what < 3; what++) {
      CHECK.due("judged(" + what + ")", x.judged(what), due[what]);
    }
    for (int t = 0; t <= 12; t += 4) {
      CHECK.due("judged(" + (10 + t) + ")", x.judged(10 + t), due[0] != 0 ? -1 : due[3 + t]);
      CHECK.due("judged(" + (30 + t) + ")", x.judged(30 + t), due[0] != 0 ? -1 : due[16 + t]);
    }
  }

  private static void checkPieces(OutInTime x, Plan town, int[][] told) {
    int[][] left = new int[16][];
    for (int s = 0; s < 16; s++) {
      left[s] = told[s].clone();
    }
    int i = 0;
    for (int t = 0; t <= 12; t++) {
      for (int s = 0; s < town.streets.size(); s++) {
        while (left[s][t] > 0) {
          checkPiece(x, town, left, s, t, i);
          i++;
        }
      }
    }
    CHECK.due("piece(-1, 0)", x.piece(-1, 0), i);
    CHECK.due("piece(" + i + ", 0)", x.piece(i, 0), -1);
  }

  private static void checkPiece(OutInTime x, Plan town, int[][] left, int first, int start, int i) {
    List<int[]> cells = new ArrayList<>();
    int least = 99;
    int s = first;
    int t = start;
    while (s >= 0) {
      cells.add(new int[] {s, t});
      least = Math.min(least, left[s][t]);
      t += town.streets.get(s).minutes;
      int place = town.streets.get(s).to;
      s = -1;
      for (int other = 0; other < town.streets.size() && s < 0 && t <= 12; other++) {
        s = town.streets.get(other).from == place && left[other][t] > 0 ? other : -1;
      }
    }
    CHECK.due("piece(" + i + ", 0)", x.piece(i, 0), least);
    CHECK.due("piece(" + i + ", 1)", x.piece(i, 1), start);
    CHECK.due("piece(" + i + ", 2)", x.piece(i, 2), cells.size());
    for (int k = 0; k < cells.size(); k++) {
      int[] cell = cells.get(k);
      left[cell[0]][cell[1]] -= least;
      CHECK.due("piece(" + i + ", " + (10 + k) + ")", x.piece(i, 10 + k), cell[0]);
    }
    CHECK.due("piece(" + i + ", " + (10 + cells.size()) + ")", x.piece(i, 10 + cells.size()), -1);
  }
}
