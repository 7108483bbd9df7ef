import java.util.ArrayList;
import java.util.List;

/** A town as the tests know it, apart from the class: made of parts, told as a text. */
final class Plan {
  static final class Street {
    int from;
    int to;
    int minutes;
    int width;
    int opens = 0;
    int closes = 12;
    boolean turns = false;
  }

  static final class Door {
    int place;
    int minute;
    int people;
    boolean slow = false;
  }

  final List<Street> streets = new ArrayList<>();
  final List<Door> doors = new ArrayList<>();
  final int[] hold = new int[8];
  final int[] safe = new int[8];

  Plan() {
    java.util.Arrays.fill(hold, 99);
  }

  int people() {
    int sum = 0;
    for (Door door : doors) {
      sum += door.people;
    }
    return sum;
  }

  private static char name(int place) {
    return (char) ('A' + place);
  }

  String text() {
    StringBuilder s = new StringBuilder();
    for (int p = 0; p < 8; p++) {
      if (hold[p] != 99) {
        s.append("hold ").append(name(p)).append(' ').append(hold[p]).append(';');
      }
    }
    for (int i = 0; i < streets.size(); i++) {
      Street street = streets.get(i);
      s.append("street ").append(name(street.from)).append(' ').append(name(street.to)).append(' ');
      s.append(street.minutes).append(' ').append(street.width).append(';');
      if (street.opens != 0 || street.closes != 12) {
        s.append("open ").append(i).append(' ').append(street.opens).append(' ').append(street.closes).append(';');
      }
      if (street.turns) {
        s.append("turns ").append(i).append(';');
      }
    }
    for (int i = 0; i < doors.size(); i++) {
      Door door = doors.get(i);
      s.append("door ").append(name(door.place)).append(' ').append(door.minute).append(' ');
      s.append(door.people).append(';');
      if (door.slow) {
        s.append("slow ").append(i).append(';');
      }
    }
    for (int p = 0; p < 8; p++) {
      if (safe[p] > 0) {
        s.append("safe ").append(name(p)).append(' ').append(safe[p]).append(';');
      }
    }
    return s.toString();
  }

  /** The same town with the streets of a set going the other way. */
  Plan turned(int set) {
    Plan plan = new Plan();
    System.arraycopy(hold, 0, plan.hold, 0, 8);
    System.arraycopy(safe, 0, plan.safe, 0, 8);
    plan.doors.addAll(doors);
    for (int i = 0; i < streets.size(); i++) {
      Street old = streets.get(i);
      Street street = new Street();
      boolean other = (set >> i & 1) == 1;
      street.from = other ? old.to : old.from;
      street.to = other ? old.from : old.to;
      street.minutes = old.minutes;
      street.width = old.width;
      street.opens = old.opens;
      street.closes = old.closes;
      street.turns = old.turns;
      plan.streets.add(street);
    }
    return plan;
  }

  int turnable() {
    int set = 0;
    for (int i = 0; i < streets.size(); i++) {
      set |= streets.get(i).turns ? 1 << i : 0;
    }
    return set;
  }

  static Plan random(Dice dice, int places, int mostStreets, int mostDoors, int mostPeople) {
    Plan plan = new Plan();
    int streets = dice.upTo(mostStreets);
    int turns = 0;
    for (int i = 0; i < streets; i++) {
      Street street = new Street();
      street.from = dice.upTo(places - 1);
      street.to = (street.from + 1 + dice.upTo(places - 2)) % places;
      street.minutes = dice.upTo(3) == 0 ? 1 + dice.upTo(4) : 1 + dice.upTo(1);
      street.width = dice.upTo(3) == 0 ? 1 + dice.upTo(8) : 1 + dice.upTo(2);
      if (dice.upTo(4) == 0) {
        street.opens = dice.upTo(6);
        street.closes = street.opens + dice.upTo(12 - street.opens);
      }
      if (turns < 3 && dice.upTo(4) == 0) {
        street.turns = true;
        turns++;
      }
      plan.streets.add(street);
    }
    int doors = 1 + dice.upTo(mostDoors - 1);
    for (int i = 0; i < doors; i++) {
      Door door = new Door();
      door.place = dice.upTo(places - 1);
      door.minute = dice.upTo(2) == 0 ? dice.upTo(12) : dice.upTo(2);
      door.people = 1 + dice.upTo(Math.min(29, mostPeople - 1));
      door.slow = dice.upTo(3) == 0;
      if (plan.people() + door.people <= 99) {
        plan.doors.add(door);
      }
    }
    for (int p = 0; p < places; p++) {
      if (dice.upTo(3) == 0) {
        plan.hold[p] = dice.upTo(3);
      }
      if (dice.upTo(2) == 0 || p == places - 1) {
        plan.safe[p] = dice.upTo(1) == 0 ? 1 + dice.upTo(3) : 1 + dice.upTo(98);
      }
    }
    while (plan.text().length() > 300) {
      plan.streets.remove(plan.streets.size() - 1);
    }
    return plan;
  }
}
