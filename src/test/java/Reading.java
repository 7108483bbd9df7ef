import java.math.BigInteger;
import java.util.ArrayList;
import java.util.HashSet;
import java.util.List;
import java.util.Map;
import java.util.Set;
import java.util.regex.Matcher;
import java.util.regex.Pattern;

/** Texts read another way: all tokens first, then clause by clause against its form. */
final class Reading {
  private static final Pattern TOKEN = Pattern.compile("[a-zA-Z]+|[0-9]+|[^ \\n]", Pattern.DOTALL);
  private static final Map<String, String> FORMS = Map.of("hold", "PN;", "street", "PPNN;", "open", "NNN;",
      "turns", "N;", "door", "PNN;", "safe", "PN;", "slow", "N;");

  int fault = 0;
  int at = -1;
  int clauses = 0;
  final Plan plan = new Plan();

  private final List<String> tokens = new ArrayList<>();
  private final List<Integer> places = new ArrayList<>();
  private final Set<String> told = new HashSet<>();
  private int turns = 0;
  private int[] values = new int[4];

  Reading(String text) {
    Matcher matcher = TOKEN.matcher(text);
    while (matcher.find()) {
      tokens.add(matcher.group());
      places.add(matcher.start());
    }
    tokens.add("");
    places.add(text.length());
    int i = 0;
    while (fault == 0 && !tokens.get(i).isEmpty()) {
      String word = tokens.get(i);
      String form = FORMS.get(word);
      values = new int[4];
      check(i, form == null, 1);
      check(i, word.equals("street") && plan.streets.size() == 16, 4);
      check(i, word.equals("turns") && turns == 5, 4);
      check(i, word.equals("door") && plan.doors.size() == 6, 4);
      for (int k = 0; fault == 0 && k < form.length(); k++) {
        checkToken(word, form.charAt(k), k, i + 1 + k);
      }
      if (fault == 0) {
        take(word);
        i += 1 + form.length();
      }
    }
  }

  /** Of one token the least fault counts, so these are asked in rising order. */
  private void check(int token, boolean wrong, int number) {
    if (fault == 0 && wrong) {
      fault = number;
      at = places.get(token);
    }
  }

  private void checkToken(String word, char kind, int k, int i) {
    String token = i < tokens.size() ? tokens.get(i) : "";
    if (kind == ';') {
      check(i, !token.equals(";"), 1);
      return;
    }
    if (kind == 'P') {
      check(i, !token.matches("[A-H]"), 1);
      values[k] = fault == 0 ? token.charAt(0) - 'A' : 0;
      check(i, word.equals("street") && k == 1 && values[0] == values[1], 3);
      check(i, !word.equals("street") && !word.equals("door") && !told.add(word + token), 3);
      return;
    }
    check(i, !token.matches("[0-9]+"), 1);
    values[k] = fault == 0 ? new BigInteger(token).min(BigInteger.valueOf(9999)).intValue() : 0;
    int least = least(word, k);
    check(i, values[k] < least || values[k] > greatest(word, k), 2);
    boolean again = k == 0 && fault == 0 && !told.add(word + values[0]);
    check(i, again, 3);
    check(i, word.equals("door") && k == 2 && plan.people() + values[2] > 99, 4);
  }

  private int least(String word, int k) {
    switch (word + k) {
      case "street2":
      case "street3":
      case "door2":
      case "safe1":
        return 1;
      case "open2":
        return values[1];
      default:
        return 0;
    }
  }

  private int greatest(String word, int k) {
    switch (word + k) {
      case "hold1":
      case "safe1":
        return 99;
      case "street2":
        return 5;
      case "street3":
        return 9;
      case "open0":
      case "turns0":
        return plan.streets.size() - 1;
      case "slow0":
        return plan.doors.size() - 1;
      case "door2":
        return 30;
      default:
        return 12;
    }
  }

  private void take(String word) {
    clauses++;
    switch (word) {
      case "hold":
        plan.hold[values[0]] = values[1];
        break;
      case "street":
        Plan.Street street = new Plan.Street();
        street.from = values[0];
        street.to = values[1];
        street.minutes = values[2];
        street.width = values[3];
        plan.streets.add(street);
        break;
      case "open":
        plan.streets.get(values[0]).opens = values[1];
        plan.streets.get(values[0]).closes = values[2];
        break;
      case "turns":
        plan.streets.get(values[0]).turns = true;
        turns++;
        break;
      case "door":
        Plan.Door door = new Plan.Door();
        door.place = values[0];
        door.minute = values[1];
        door.people = values[2];
        plan.doors.add(door);
        break;
      case "safe":
        plan.safe[values[0]] = values[1];
        break;
      default:
        plan.doors.get(values[0]).slow = true;
    }
  }

  /** Each answer about the text, read by x just now. */
  void compare(Check c, OutInTime x, int answer) {
    c.due("town()", answer, fault == 0 ? plan.streets.size() : -1);
    c.due("fault(0)", x.fault(0), fault);
    c.due("fault(1)", x.fault(1), at);
    if (fault == 0) {
      compareTown(c, x);
    }
  }

  private void compareTown(Check c, OutInTime x) {
    int slow = 0;
    int[] people = new int[8];
    for (Plan.Door door : plan.doors) {
      slow += door.slow ? door.people : 0;
      people[door.place] += door.people;
    }
    int[] about = {plan.streets.size(), plan.doors.size(), plan.people(), turns, 0, clauses, 0, slow};
    for (int what = 0; what < 8; what++) {
      c.due("about(" + what + ")", x.about(what), about[what]);
    }
    for (int p = 0; p < 8; p++) {
      c.due("place(" + p + ", 0)", x.place(p, 0), plan.hold[p]);
      c.due("place(" + p + ", 1)", x.place(p, 1), plan.safe[p]);
      c.due("place(" + p + ", 2)", x.place(p, 2), people[p]);
    }
    for (int s = 0; s < plan.streets.size(); s++) {
      Plan.Street street = plan.streets.get(s);
      int[] due = {street.from, street.to, street.minutes, street.width, street.opens, street.closes,
        street.turns ? 1 : 0, 0};
      for (int what = 0; what < 8; what++) {
        c.due("street(" + s + ", " + what + ")", x.street(s, what), due[what]);
      }
    }
  }
}
