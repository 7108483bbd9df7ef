import java.util.Arrays;

/** A town whose people must go out in time; DOC.md says what each call promises. */
public final class OutInTime {
  public static final int NONE = -1;

  private static final int PLACES = 8;
  private static final int STREETS = 16;
  private static final int DOORS = 6;
  private static final int TURNS = 5;
  private static final int CHANGES = 8;
  private static final int LAST = 12;
  private static final int MINUTES = LAST + 1;
  private static final int LONGEST = 5;
  private static final int WIDEST = 9;
  private static final int PEOPLE = 99;
  private static final int BEHIND_DOOR = 30;
  private static final int TOLD = 30;
  private static final int CELLS = STREETS * MINUTES;
  private static final int BYTES = 300;
  private static final int CHOICES = 4096;

  private final int[] tape = new int[BYTES];
  private int taped = 0;
  private int faultNumber = NONE;
  private int faultAt = NONE;
  private final State now = new State();
  private final State kept = new State();
  private final int[] spare = new int[CELLS];
  private final Reader reader = new Reader();
  private final Outs outs = new Outs();
  private final Judge judge = new Judge();
  private final Apart apart = new Apart();
  private final Walk walk = new Walk();
  private final Guide guide = new Guide();

  public OutInTime() {
  }

  public int feed(int a, int b, int c, int d, int e) {
    if (taped + 20 > BYTES) {
      return NONE;
    }
    append(a);
    append(b);
    append(c);
    append(d);
    append(e);
    return taped;
  }

  private void append(int four) {
    for (int shift = 24; shift >= 0; shift -= 8) {
      if (taped < BYTES) {
        tape[taped] = (four >>> shift) & 255;
        taped++;
      }
    }
  }

  public int end(int n) {
    if (n < 0 || n > taped) {
      return NONE;
    }
    taped = n;
    return n;
  }

  public int town() {
    faultNumber = reader.read(tape, taped);
    faultAt = reader.faultAt;
    taped = 0;
    if (faultNumber != 0) {
      return NONE;
    }
    now.startWith(reader.town);
    forget();
    return now.town.streets;
  }

  /** What was worked out of the streets holds no longer. */
  private void forget() {
    outs.forget();
    guide.forget();
  }

  public int fault(int what) {
    switch (what) {
      case 0:
        return faultNumber;
      case 1:
        return faultAt;
      default:
        return NONE;
    }
  }

  public int street(int street, int what) {
    Town town = now.town;
    if (!town.hasStreet(street)) {
      return NONE;
    }
    switch (what) {
      case 0:
        return now.begin(street);
      case 1:
        return now.finish(street);
      case 2:
        return town.minutes[street];
      case 3:
        return town.width[street];
      case 4:
        return town.opens[street];
      case 5:
        return town.closes[street];
      case 6:
        return (town.turnable >> street) & 1;
      case 7:
        return (now.turned >> street) & 1;
      default:
        return NONE;
    }
  }

  public int place(int place, int what) {
    if (!isPlace(place)) {
      return NONE;
    }
    switch (what) {
      case 0:
        return now.town.hold[place];
      case 1:
        return now.town.safe[place];
      case 2:
        return now.town.peopleAt(place);
      default:
        return NONE;
    }
  }

  public boolean turn(int streets) {
    if ((streets & ~now.town.turnable) != 0) {
      return false;
    }
    now.setTurned(streets);
    forget();
    return true;
  }

  public int most(int t) {
    if (!isMinute(t)) {
      return NONE;
    }
    outs.findMost(now);
    return outs.most[t];
  }

  public int cut(int t, int place, int minute) {
    if (!isMinute(t) || !isPlace(place) || minute < 0 || minute > t) {
      return NONE;
    }
    outs.findMost(now);
    return (outs.cutMinutes[t * PLACES + place] >> minute) & 1;
  }

  public int quick() {
    outs.findMost(now);
    return outs.quickOf(now.town.people());
  }

  public int all(int t, int what) {
    if (!isMinute(t) || what < 0 || what > 3) {
      return NONE;
    }
    outs.findMost(now);
    outs.findSum(now, t);
    if (what == 0) {
      return outs.sums[t];
    }
    if (what == 1) {
      return outs.isOneBest(t) ? 1 : 0;
    }
    outs.findQuarrel(now, t);
    return what == 2 ? outs.quarrelFirst : outs.quarrelSecond;
  }

  public int turned(int what) {
    if (what < 0 || what > 1) {
      return NONE;
    }
    outs.findTurn(now.town);
    return what == 0 ? outs.turnSet : outs.turnQuick;
  }

  public int wider(int t, int what) {
    if (!isMinute(t) || what < 0 || what > 1) {
      return NONE;
    }
    outs.findWider(now, t);
    return what == 0 ? outs.widerStreet : outs.widerGain;
  }

  public boolean enter(int street, int minute, int n) {
    return now.tell(now.plain, street, minute, n);
  }

  public int judged(int what) {
    if (what == 3) {
      return now.cellsTold();
    }
    boolean outBy = what >= 10 && what <= 10 + LAST;
    boolean slowOutBy = what >= 30 && what <= 30 + LAST;
    if (!outBy && !slowOutBy && (what < 0 || what > 2)) {
      return NONE;
    }
    judge.judge(now);
    if (outBy) {
      return judge.bar == 0 ? judge.outBy[what - 10] : NONE;
    }
    if (slowOutBy) {
      return judge.bar == 0 ? judge.slowOutBy[what - 30] : NONE;
    }
    if (what == 0) {
      return judge.bar;
    }
    return what == 1 ? judge.barMinute : judge.barAt;
  }

  public boolean wave(int a, int b, int c, int d, int from, int till, int n) {
    if (!isMinute(from) || !isMinute(till) || from > till || n < 1 || n > TOLD) {
      return false;
    }
    if (!now.town.hasStreet(a) || !now.goesOn(a, b) || !now.goesOn(b, c) || !now.goesOn(c, d)) {
      return false;
    }
    System.arraycopy(now.plain, 0, spare, 0, CELLS);
    int later = addWave(a, from, till, n);
    later = addWave(b, later, later + till - from, n);
    later = addWave(c, later, later + till - from, n);
    later = addWave(d, later, later + till - from, n);
    if (later == NONE) {
      return false;
    }
    System.arraycopy(spare, 0, now.plain, 0, CELLS);
    return true;
  }

  /** Tells spare of a wave's part in one street: when its first ones come out, or NONE if it can't be. */
  private int addWave(int street, int from, int till, int n) {
    if (from == NONE || !now.town.hasStreet(street)) {
      return from;
    }
    if (from < 0 || till > LAST) {
      return NONE;
    }
    for (int minute = from; minute <= till; minute++) {
      int cell = street * MINUTES + minute;
      spare[cell] += n;
      if (spare[cell] > TOLD) {
        return NONE;
      }
    }
    return from + now.town.minutes[street];
  }

  public int piece(int i, int what) {
    if (i == NONE) {
      return apart.countPieces(now);
    }
    if (i < 0 || !apart.findPiece(now, i)) {
      return NONE;
    }
    switch (what) {
      case 0:
        return apart.people;
      case 1:
        return apart.minute;
      case 2:
        return apart.streets;
      default:
        return what >= 10 && what < 10 + apart.streets ? apart.line[what - 10] : NONE;
    }
  }

  public boolean slow(int street, int minute, int n) {
    return now.tell(now.slow, street, minute, n);
  }

  public int kinds(int t, int what) {
    if (!isMinute(t) || what < 0 || what > 2) {
      return NONE;
    }
    int plain = what == 1 ? 0 : outs.mostOf(now, t, Net.PLAIN);
    int slow = what == 0 ? 0 : outs.mostOf(now, t, Net.SLOW);
    if (what < 2) {
      return plain + slow;
    }
    outs.findMost(now);
    return Math.min(outs.most[t], plain + slow);
  }

  public boolean sign(int place, int street) {
    if (!now.canPoint(place, street)) {
      return false;
    }
    now.signs[place] = street;
    return true;
  }

  public int signed(int t, int what) {
    if (!isMinute(t) || what < NONE || what > PLACES) {
      return NONE;
    }
    walk.planSigns(now);
    walk.go(now, t);
    if (what == NONE) {
      return walk.outBy[t];
    }
    return what == PLACES ? walk.onStreets(t) : walk.there[what];
  }

  public boolean change(int place, int minute, int street) {
    if (!now.canPoint(place, street) || minute < 1 || minute > LAST) {
      return false;
    }
    return now.putChange(place, minute, street);
  }

  public int changed(int what) {
    if (what < 0 || what > 4) {
      return NONE;
    }
    guide.findChange(now, walk);
    switch (what) {
      case 0:
        return guide.changePlace;
      case 1:
        return guide.changeMinute;
      case 2:
        return guide.changeStreet;
      case 3:
        return guide.changeSum;
      default:
        return guide.sumWithout;
    }
  }

  public int falls(int street, int minute, int what) {
    if (!now.town.hasStreet(street) || !isMinute(minute)) {
      return NONE;
    }
    switch (what) {
      case 0:
        return guide.knownSum(now, walk, street, minute);
      case 1:
        guide.findBest(now, walk);
        return guide.lateSum(now, walk, street, minute);
      default:
        return NONE;
    }
  }

  public int ring(int place) {
    if (!isPlace(place)) {
      return NONE;
    }
    for (int door = 0; door < now.town.doors; door++) {
      if (now.circlesThrough(now.town.doorPlace[door], place)) {
        return 1;
      }
    }
    return 0;
  }

  public int signs(int place) {
    if (place != NONE && !isPlace(place)) {
      return NONE;
    }
    guide.findBest(now, walk);
    return place == NONE || guide.sumOfBest == NONE ? guide.sumOfBest : guide.best[place];
  }

  public int image() {
    kept.become(now);
    return now.town.streets;
  }

  public int back() {
    now.become(kept);
    forget();
    return now.town.streets;
  }

  public int about(int what) {
    switch (what) {
      case 0:
        return now.town.streets;
      case 1:
        return now.town.doors;
      case 2:
        return now.town.people();
      case 3:
        return Integer.bitCount(now.town.turnable);
      case 4:
        return taped;
      case 5:
        return now.town.clauses;
      case 6:
        return now.changes;
      case 7:
        return now.town.slowPeople();
      default:
        return NONE;
    }
  }

  private static boolean isMinute(int t) {
    return t >= 0 && t <= LAST;
  }

  private static boolean isPlace(int place) {
    return place >= 0 && place < PLACES;
  }

  /** What a text tells: streets the way they were told, whichever are turned. */
  private static final class Town {
    private final int[] from = new int[STREETS];
    private final int[] to = new int[STREETS];
    private final int[] minutes = new int[STREETS];
    private final int[] width = new int[STREETS];
    private final int[] opens = new int[STREETS];
    private final int[] closes = new int[STREETS];
    private final int[] hold = new int[PLACES];
    private final int[] safe = new int[PLACES];
    private final int[] doorPlace = new int[DOORS];
    private final int[] doorMinute = new int[DOORS];
    private final int[] doorPeople = new int[DOORS];
    private int streets = 0;
    private int doors = 0;
    private int turnable = 0;
    private int slowDoors = 0;
    private int clauses = 0;

    private Town() {
      Arrays.fill(hold, PEOPLE);
    }

    private void clear() {
      Arrays.fill(hold, PEOPLE);
      Arrays.fill(safe, 0);
      streets = 0;
      doors = 0;
      turnable = 0;
      slowDoors = 0;
      clauses = 0;
    }

    private void become(Town other) {
      System.arraycopy(other.from, 0, from, 0, STREETS);
      System.arraycopy(other.to, 0, to, 0, STREETS);
      System.arraycopy(other.minutes, 0, minutes, 0, STREETS);
      System.arraycopy(other.width, 0, width, 0, STREETS);
      System.arraycopy(other.opens, 0, opens, 0, STREETS);
      System.arraycopy(other.closes, 0, closes, 0, STREETS);
      System.arraycopy(other.hold, 0, hold, 0, PLACES);
      System.arraycopy(other.safe, 0, safe, 0, PLACES);
      System.arraycopy(other.doorPlace, 0, doorPlace, 0, DOORS);
      System.arraycopy(other.doorMinute, 0, doorMinute, 0, DOORS);
      System.arraycopy(other.doorPeople, 0, doorPeople, 0, DOORS);
      streets = other.streets;
      doors = other.doors;
      turnable = other.turnable;
      slowDoors = other.slowDoors;
      clauses = other.clauses;
    }

    private boolean hasStreet(int street) {
      return street >= 0 && street < streets;
    }

    private int begin(int street, int turned) {
      return ((turned >> street) & 1) == 0 ? from[street] : to[street];
    }

    private int finish(int street, int turned) {
      return ((turned >> street) & 1) == 0 ? to[street] : from[street];
    }

    private boolean isOpen(int street, int minute) {
      return minute >= opens[street] && minute <= closes[street];
    }

    private boolean isSlow(int door) {
      return ((slowDoors >> door) & 1) == 1;
    }

    private int peopleAt(int place) {
      int sum = 0;
      for (int door = 0; door < doors; door++) {
        sum += doorPlace[door] == place ? doorPeople[door] : 0;
      }
      return sum;
    }

    private int people() {
      int sum = 0;
      for (int door = 0; door < doors; door++) {
        sum += doorPeople[door];
      }
      return sum;
    }

    private int slowPeople() {
      int sum = 0;
      for (int door = 0; door < doors; door++) {
        sum += isSlow(door) ? doorPeople[door] : 0;
      }
      return sum;
    }
  }

  /** Reads a text into a town of its own, so that a fault leaves the other town as it is. */
  private static final class Reader {
    private static final int END = 0;
    private static final int LETTERS = 1;
    private static final int NUMBER = 2;
    private static final int SEMICOLON = 3;
    private static final int OTHER = 4;
    private static final int TOO_BIG = 1000;

    private final Town town = new Town();
    private final int[] text = new int[BYTES];
    private int length = 0;
    private int kind = END;
    private int start = 0;
    private int stop = 0;
    private int value = 0;
    private int held = 0;
    private int opened = 0;
    private int fault = 0;
    private int faultAt = NONE;

    private int read(int[] tape, int taped) {
      length = Math.max(0, Math.min(Math.min(taped, tape.length), BYTES));
      System.arraycopy(tape, 0, text, 0, length);
      town.clear();
      held = 0;
      opened = 0;
      fault = 0;
      faultAt = NONE;
      stop = 0;
      next();
      for (int clause = 0; clause < BYTES && kind != END; clause++) {
        if (!readClause()) {
          return fault;
        }
        town.clauses++;
      }
      return fault;
    }

    private void next() {
      start = stop;
      while (start < length && (text[start] == ' ' || text[start] == '\n')) {
        start++;
      }
      stop = start;
      if (start >= length) {
        kind = END;
      } else if (isLetter(text[start])) {
        kind = LETTERS;
        while (stop < length && isLetter(text[stop])) {
          stop++;
        }
      } else if (isDigit(text[start])) {
        kind = NUMBER;
        value = 0;
        while (stop < length && isDigit(text[stop])) {
          // so many digits as a text can hold would wrap round
          value = Math.min(TOO_BIG, value * 10 + text[stop] - '0');
          stop++;
        }
      } else {
        kind = text[start] == ';' ? SEMICOLON : OTHER;
        stop++;
      }
    }

    private static boolean isLetter(int sign) {
      return sign >= 'a' && sign <= 'z' || sign >= 'A' && sign <= 'Z';
    }

    private static boolean isDigit(int sign) {
      return sign >= '0' && sign <= '9';
    }

    private boolean fail(int number) {
      fault = number;
      faultAt = start;
      return false;
    }

    private boolean isWord(String word) {
      if (kind != LETTERS || stop - start != word.length()) {
        return false;
      }
      for (int i = 0; i < word.length(); i++) {
        if (text[start + i] != word.charAt(i)) {
          return false;
        }
      }
      return true;
    }

    private boolean readClause() {
      if (isWord("hold")) {
        return readHold();
      }
      if (isWord("street")) {
        return readStreet();
      }
      if (isWord("open")) {
        return readOpen();
      }
      if (isWord("turns")) {
        return readTurns();
      }
      if (isWord("door")) {
        return readDoor();
      }
      if (isWord("safe")) {
        return readSafe();
      }
      if (isWord("slow")) {
        return readSlow();
      }
      return fail(1);
    }

    /** The next token is a place; its number is the value then. */
    private boolean nextIsPlace() {
      next();
      boolean one = kind == LETTERS && stop - start == 1;
      if (!one || text[start] < 'A' || text[start] >= 'A' + PLACES) {
        return fail(1);
      }
      value = text[start] - 'A';
      return true;
    }

    private boolean nextIsNumber(int least, int greatest) {
      next();
      if (kind != NUMBER) {
        return fail(1);
      }
      return value >= least && value <= greatest || fail(2);
    }

    private boolean endsClause() {
      next();
      if (kind != SEMICOLON) {
        return fail(1);
      }
      next();
      return true;
    }

    private boolean readHold() {
      if (!nextIsPlace()) {
        return false;
      }
      int place = value;
      if (((held >> place) & 1) == 1) {
        return fail(3);
      }
      if (!nextIsNumber(0, PEOPLE)) {
        return false;
      }
      held |= 1 << place;
      town.hold[place] = value;
      return endsClause();
    }

    private boolean readStreet() {
      int street = town.streets;
      if (street >= STREETS) {
        return fail(4);
      }
      if (!nextIsPlace()) {
        return false;
      }
      town.from[street] = value;
      if (!nextIsPlace()) {
        return false;
      }
      town.to[street] = value;
      if (town.from[street] == value) {
        return fail(3);
      }
      if (!nextIsNumber(1, LONGEST)) {
        return false;
      }
      town.minutes[street] = value;
      if (!nextIsNumber(1, WIDEST)) {
        return false;
      }
      town.width[street] = value;
      town.opens[street] = 0;
      town.closes[street] = LAST;
      town.streets++;
      return endsClause();
    }

    private boolean readOpen() {
      if (!nextIsNumber(0, town.streets - 1)) {
        return false;
      }
      int street = value;
      if (((opened >> street) & 1) == 1) {
        return fail(3);
      }
      opened |= 1 << street;
      if (!nextIsNumber(0, LAST)) {
        return false;
      }
      town.opens[street] = value;
      if (!nextIsNumber(town.opens[street], LAST)) {
        return false;
      }
      town.closes[street] = value;
      return endsClause();
    }

    private boolean readTurns() {
      if (Integer.bitCount(town.turnable) >= TURNS) {
        return fail(4);
      }
      if (!nextIsNumber(0, town.streets - 1)) {
        return false;
      }
      if (((town.turnable >> value) & 1) == 1) {
        return fail(3);
      }
      town.turnable |= 1 << value;
      return endsClause();
    }

    private boolean readDoor() {
      int door = town.doors;
      if (door >= DOORS) {
        return fail(4);
      }
      if (!nextIsPlace()) {
        return false;
      }
      town.doorPlace[door] = value;
      if (!nextIsNumber(0, LAST)) {
        return false;
      }
      town.doorMinute[door] = value;
      if (!nextIsNumber(1, BEHIND_DOOR)) {
        return false;
      }
      if (town.people() + value > PEOPLE) {
        return fail(4);
      }
      town.doorPeople[door] = value;
      town.doors++;
      return endsClause();
    }

    private boolean readSafe() {
      if (!nextIsPlace()) {
        return false;
      }
      int place = value;
      if (town.safe[place] > 0) {
        return fail(3);
      }
      if (!nextIsNumber(1, PEOPLE)) {
        return false;
      }
      town.safe[place] = value;
      return endsClause();
    }

    private boolean readSlow() {
      if (!nextIsNumber(0, town.doors - 1)) {
        return false;
      }
      if (town.isSlow(value)) {
        return fail(3);
      }
      town.slowDoors |= 1 << value;
      return endsClause();
    }
  }

  /** All that an image keeps: the town, what is turned, signs, changes and the way told. */
  private static final class State {
    private final Town town = new Town();
    private int turned = 0;
    private final int[] signs = new int[PLACES];
    private int changes = 0;
    private final int[] changePlace = new int[CHANGES];
    private final int[] changeMinute = new int[CHANGES];
    private final int[] changeStreet = new int[CHANGES];
    private final int[] plain = new int[CELLS];
    private final int[] slow = new int[CELLS];

    private State() {
      Arrays.fill(signs, NONE);
    }

    private void startWith(Town told) {
      town.become(told);
      turned = 0;
      Arrays.fill(signs, NONE);
      changes = 0;
      Arrays.fill(plain, 0);
      Arrays.fill(slow, 0);
    }

    private void become(State other) {
      town.become(other.town);
      turned = other.turned;
      System.arraycopy(other.signs, 0, signs, 0, PLACES);
      changes = other.changes;
      System.arraycopy(other.changePlace, 0, changePlace, 0, CHANGES);
      System.arraycopy(other.changeMinute, 0, changeMinute, 0, CHANGES);
      System.arraycopy(other.changeStreet, 0, changeStreet, 0, CHANGES);
      System.arraycopy(other.plain, 0, plain, 0, CELLS);
      System.arraycopy(other.slow, 0, slow, 0, CELLS);
    }

    private int begin(int street) {
      return town.begin(street, turned);
    }

    private int finish(int street) {
      return town.finish(street, turned);
    }

    private void setTurned(int streets) {
      int other = turned ^ streets;
      turned = streets;
      for (int place = 0; place < PLACES; place++) {
        signs[place] = unlessIn(other, signs[place]);
      }
      for (int i = 0; i < changes; i++) {
        changeStreet[i] = unlessIn(other, changeStreet[i]);
      }
    }

    private static int unlessIn(int streets, int street) {
      return street != NONE && ((streets >> street) & 1) == 1 ? NONE : street;
    }

    private boolean tell(int[] way, int street, int minute, int n) {
      if (!town.hasStreet(street) || !isMinute(minute) || n < 0 || n > TOLD) {
        return false;
      }
      way[street * MINUTES + minute] = n;
      return true;
    }

    private int cellsTold() {
      int told = 0;
      for (int cell = 0; cell < CELLS; cell++) {
        told += plain[cell] > 0 || slow[cell] > 0 ? 1 : 0;
      }
      return told;
    }

    /** Whether a wave can go on from a street into another one, or ends, as it must behind its end. */
    private boolean goesOn(int ahead, int street) {
      if (street == NONE) {
        return true;
      }
      return town.hasStreet(ahead) && town.hasStreet(street) && finish(ahead) == begin(street);
    }

    private boolean canPoint(int place, int street) {
      if (!isPlace(place)) {
        return false;
      }
      return street == NONE || town.hasStreet(street) && begin(street) == place;
    }

    /** The lowest street from a place that is above another one, or NONE. */
    private int nextFrom(int place, int street) {
      for (int other = street + 1; other < town.streets; other++) {
        if (begin(other) == place) {
          return other;
        }
      }
      return NONE;
    }

    private int changeAt(int place, int minute) {
      for (int i = 0; i < changes; i++) {
        if (changePlace[i] == place && changeMinute[i] == minute) {
          return i;
        }
      }
      return NONE;
    }

    private boolean putChange(int place, int minute, int street) {
      int i = changeAt(place, minute);
      if (i == NONE) {
        if (changes >= CHANGES) {
          return false;
        }
        i = changes;
        changes++;
      }
      changePlace[i] = place;
      changeMinute[i] = minute;
      changeStreet[i] = street;
      return true;
    }

    private int followSign(int place) {
      return place == NONE || signs[place] == NONE ? NONE : finish(signs[place]);
    }

    private boolean circlesThrough(int start, int place) {
      int at = start;
      // who has gone on as often as there are places goes in a ring for ever
      for (int step = 0; step < PLACES; step++) {
        at = followSign(at);
      }
      for (int step = 0; step < PLACES; step++) {
        if (at == place) {
          return true;
        }
        at = followSign(at);
      }
      return false;
    }
  }

  /** The town over time: a node for each place at each minute, and for each door and safe place. */
  private static final class Net {
    private static final int ALL = 0;
    private static final int PLAIN = 1;
    private static final int SLOW = 2;
    private static final int DOOR = PLACES * MINUTES;
    private static final int SAFE = DOOR + DOORS;
    private static final int SOURCE = SAFE + PLACES;
    private static final int SINK = SOURCE + 1;
    private static final int NODES = SINK + 1;
    /** Each arc has its reverse behind it. */
    private static final int ARCS = 2 * (DOORS + PLACES + MINUTES * (STREETS + PLACES + DOORS + PLACES));
    /** Labels below are streets, from here on the minute of an out. */
    private static final int OUT = STREETS;
    private static final int UNREACHED = -1000000;

    private int arcs = 0;
    private final int[] firstArc = new int[NODES];
    private final int[] nextArc = new int[ARCS];
    private final int[] target = new int[ARCS];
    private final int[] room = new int[ARCS];
    private final int[] label = new int[ARCS];
    private final int[] gain = new int[ARCS];
    private final int[] stored = new int[ARCS];
    /** By which arc the last search came to a node; NONE: it did not. */
    private final int[] via = new int[NODES];
    private final int[] queue = new int[NODES];
    private final int[] far = new int[NODES];

    private void build(Town town, int turned, int who) {
      arcs = 0;
      Arrays.fill(firstArc, NONE);
      for (int door = 0; door < town.doors; door++) {
        if (who == ALL || town.isSlow(door) == (who == SLOW)) {
          addArc(SOURCE, DOOR + door, town.doorPeople[door], NONE);
        }
      }
      for (int place = 0; place < PLACES; place++) {
        addArc(SAFE + place, SINK, town.safe[place], NONE);
      }
      for (int minute = 0; minute < MINUTES; minute++) {
        addMinute(town, minute);
        addEntries(town, turned, who == SLOW, minute);
      }
    }

    private void addMinute(Town town, int minute) {
      for (int door = 0; door < town.doors; door++) {
        if (minute >= town.doorMinute[door]) {
          addArc(DOOR + door, node(town.doorPlace[door], minute), PEOPLE, NONE);
        }
      }
      for (int place = 0; place < PLACES; place++) {
        if (minute < LAST) {
          addArc(node(place, minute), node(place, minute + 1), town.hold[place], NONE);
        }
        if (town.safe[place] > 0) {
          addArc(node(place, minute), SAFE + place, PEOPLE, OUT + minute);
        }
      }
    }

    private void addEntries(Town town, int turned, boolean slowly, int minute) {
      for (int street = 0; street < town.streets; street++) {
        int comes = minute + town.minutes[street] + (slowly ? 1 : 0);
        int width = slowly ? town.width[street] / 2 : town.width[street];
        if (town.isOpen(street, minute) && comes <= LAST) {
          int from = node(town.begin(street, turned), minute);
          addArc(from, node(town.finish(street, turned), comes), width, street);
        }
      }
    }

    private static int node(int place, int minute) {
      return place * MINUTES + minute;
    }

    private void addArc(int from, int to, int most, int name) {
      if (arcs + 2 > ARCS) {
        return;
      }
      addHalf(from, to, most, name);
      addHalf(to, from, 0, name);
    }

    private void addHalf(int from, int to, int most, int name) {
      target[arcs] = to;
      room[arcs] = most;
      label[arcs] = name;
      nextArc[arcs] = firstArc[from];
      firstArc[from] = arcs;
      arcs++;
    }

    private void store() {
      System.arraycopy(room, 0, stored, 0, arcs);
    }

    private void restore() {
      System.arraycopy(stored, 0, room, 0, arcs);
    }

    private void widen(int street) {
      for (int arc = 0; arc + 1 < arcs; arc += 2) {
        room[arc] += label[arc] == street ? 1 : 0;
      }
    }

    /** Sends as many more as can be out by a minute: how many more; the last search saw the cut. */
    private int fill(int horizon) {
      int more = 0;
      for (int round = 0; round <= PEOPLE; round++) {
        if (!search(horizon, false)) {
          break;
        }
        more += push();
      }
      return more;
    }

    private boolean isBehind(int node, int horizon) {
      return node < DOOR && node % MINUTES > horizon;
    }

    /** Looks for a way from the source to the sink; a tight one goes by the farthest arcs alone. */
    private boolean search(int horizon, boolean tight) {
      Arrays.fill(via, NONE);
      // the search is at the source from the first on; by which arc is never asked
      via[SOURCE] = 0;
      queue[0] = SOURCE;
      int last = 1;
      for (int i = 0; i < last && i < NODES; i++) {
        int node = queue[i];
        int arc = firstArc[node];
        for (int n = 0; n < ARCS && arc != NONE; n++) {
          int to = target[arc];
          boolean fits = !tight || far[node] + gain[arc] == far[to];
          if (room[arc] > 0 && via[to] == NONE && last < NODES && fits && !isBehind(to, horizon)) {
            via[to] = arc;
            if (to == SINK) {
              return true;
            }
            queue[last] = to;
            last++;
          }
          arc = nextArc[arc];
        }
      }
      return false;
    }

    /** Sends along the way that was found as many as it can hold. */
    private int push() {
      int n = PEOPLE;
      int node = SINK;
      for (int step = 0; step < NODES && node != SOURCE && via[node] != NONE; step++) {
        int arc = via[node];
        n = Math.min(n, room[arc]);
        node = target[arc ^ 1];
      }
      node = SINK;
      for (int step = 0; step < NODES && node != SOURCE && via[node] != NONE; step++) {
        int arc = via[node];
        room[arc] -= n;
        room[arc ^ 1] += n;
        node = target[arc ^ 1];
      }
      return n;
    }

    private boolean saw(int node) {
      return via[node] != NONE;
    }

    private void setGains(int[] worth) {
      for (int arc = 0; arc + 1 < arcs; arc += 2) {
        int minute = label[arc] - OUT;
        gain[arc] = minute >= 0 ? worth[minute] : 0;
        gain[arc + 1] = -gain[arc];
      }
    }

    /** The greatest worth of all who go out up to a minute, each worth what its minute is. */
    private int fillByWorth(int horizon, int[] worth) {
      setGains(worth);
      int sum = 0;
      // each round takes all ways of one worth, and worths fall from round to round
      for (int round = 0; round <= MINUTES; round++) {
        measure(horizon);
        if (far[SINK] <= 0) {
          break;
        }
        for (int pushes = 0; pushes <= PEOPLE; pushes++) {
          if (!search(horizon, true)) {
            break;
          }
          sum += push() * far[SINK];
        }
      }
      return sum;
    }

    /** The greatest gain with which each node can be come to. */
    private void measure(int horizon) {
      Arrays.fill(far, UNREACHED);
      far[SOURCE] = 0;
      boolean grows = true;
      for (int pass = 0; pass < NODES && grows; pass++) {
        grows = false;
        for (int arc = 0; arc < arcs; arc++) {
          int from = target[arc ^ 1];
          int to = target[arc];
          if (room[arc] > 0 && far[from] != UNREACHED && far[from] + gain[arc] > far[to]
              && !isBehind(to, horizon)) {
            far[to] = far[from] + gain[arc];
            grows = true;
          }
        }
      }
    }
  }

  /** Who can be out by when; what was worked out is kept until a street changes. */
  private static final class Outs {
    private static final int UNKNOWN = 0;
    private static final int AGREE = 1;
    private static final int QUARREL = 2;

    private final Net net = new Net();
    private boolean mostKnown = false;
    private final int[] most = new int[MINUTES];
    private final int[] cutMinutes = new int[MINUTES * PLACES];
    private final int[] sums = new int[MINUTES];
    private final int[] pairs = new int[MINUTES * MINUTES];
    private final int[] worth = new int[MINUTES];
    private int quarrelFirst = NONE;
    private int quarrelSecond = NONE;
    private boolean turnKnown = false;
    private int turnSet = 0;
    private int turnQuick = NONE;
    private int widerStreet = NONE;
    private int widerGain = NONE;

    private Outs() {
      Arrays.fill(sums, NONE);
    }

    private void forget() {
      mostKnown = false;
      turnKnown = false;
      Arrays.fill(sums, NONE);
      Arrays.fill(pairs, UNKNOWN);
    }

    private void findMost(State now) {
      if (mostKnown) {
        return;
      }
      mostKnown = true;
      net.build(now.town, now.turned, Net.ALL);
      int out = 0;
      for (int t = 0; t < MINUTES; t++) {
        out += net.fill(t);
        most[t] = out;
        keepCut(t);
      }
    }

    private void keepCut(int t) {
      for (int place = 0; place < PLACES; place++) {
        int bits = 0;
        for (int minute = 0; minute <= t; minute++) {
          bits |= net.saw(Net.node(place, minute)) ? 1 << minute : 0;
        }
        cutMinutes[t * PLACES + place] = bits;
      }
    }

    private int quickOf(int people) {
      for (int t = 0; t < MINUTES; t++) {
        if (most[t] == people) {
          return t;
        }
      }
      return NONE;
    }

    private int mostOf(State now, int t, int who) {
      net.build(now.town, now.turned, who);
      return net.fill(t);
    }

    private void findSum(State now, int t) {
      if (sums[t] != NONE) {
        return;
      }
      for (int minute = 0; minute < MINUTES; minute++) {
        worth[minute] = Math.max(0, t - minute + 1);
      }
      net.build(now.town, now.turned, Net.ALL);
      sums[t] = net.fillByWorth(t, worth);
    }

    private boolean isOneBest(int t) {
      int sum = 0;
      for (int minute = 0; minute <= t; minute++) {
        sum += most[minute];
      }
      return sums[t] == sum;
    }

    private void findQuarrel(State now, int t) {
      quarrelFirst = NONE;
      quarrelSecond = NONE;
      if (isOneBest(t)) {
        return;
      }
      for (int first = 0; first < t; first++) {
        for (int second = first + 1; second <= t; second++) {
          if (doQuarrel(now, first, second)) {
            quarrelFirst = first;
            quarrelSecond = second;
            return;
          }
        }
      }
    }

    private boolean doQuarrel(State now, int first, int second) {
      int pair = first * MINUTES + second;
      if (pairs[pair] == UNKNOWN) {
        for (int minute = 0; minute < MINUTES; minute++) {
          worth[minute] = minute <= first ? 2 : minute <= second ? 1 : 0;
        }
        net.build(now.town, now.turned, Net.ALL);
        boolean agree = net.fillByWorth(second, worth) == most[first] + most[second];
        pairs[pair] = agree ? AGREE : QUARREL;
      }
      return pairs[pair] == QUARREL;
    }

    private void findTurn(Town town) {
      if (turnKnown) {
        return;
      }
      turnKnown = true;
      turnSet = 0;
      int before = MINUTES;
      int set = 0;
      for (int n = 0; n < 1 << TURNS; n++) {
        int quick = quickBefore(town, set, before);
        if (quick != NONE) {
          turnSet = set;
          before = quick;
        }
        // the next higher set of streets that may be turned
        set = (set - town.turnable) & town.turnable;
        if (set == 0) {
          break;
        }
      }
      turnQuick = before < MINUTES ? before : NONE;
    }

    private int quickBefore(Town town, int turned, int before) {
      net.build(town, turned, Net.ALL);
      int people = town.people();
      int out = 0;
      for (int t = 0; t < before && t < MINUTES; t++) {
        out += net.fill(t);
        if (out == people) {
          return t;
        }
      }
      return NONE;
    }

    private void findWider(State now, int t) {
      net.build(now.town, now.turned, Net.ALL);
      net.fill(t);
      net.store();
      widerStreet = NONE;
      widerGain = NONE;
      for (int street = 0; street < now.town.streets; street++) {
        net.restore();
        net.widen(street);
        int more = net.fill(t);
        if (more > 0 && more > widerGain) {
          widerStreet = street;
          widerGain = more;
        }
      }
    }
  }

  /** Judges the way told, minute by minute. */
  private static final class Judge {
    private int bar = 0;
    private int barMinute = NONE;
    private int barAt = NONE;
    private int out = 0;
    private int slowOut = 0;
    private final int[] outBy = new int[MINUTES];
    private final int[] slowOutBy = new int[MINUTES];
    private final int[] there = new int[PLACES];
    private final int[] slowThere = new int[PLACES];
    private final int[] enters = new int[PLACES];
    private final int[] slowEnters = new int[PLACES];
    private final int[] takes = new int[PLACES];
    private final int[] behind = new int[DOORS];

    private void judge(State now) {
      bar = 0;
      barMinute = NONE;
      barAt = NONE;
      out = 0;
      slowOut = 0;
      Arrays.fill(there, 0);
      Arrays.fill(slowThere, 0);
      System.arraycopy(now.town.safe, 0, takes, 0, PLACES);
      System.arraycopy(now.town.doorPeople, 0, behind, 0, DOORS);
      for (int minute = 0; minute < MINUTES && bar == 0; minute++) {
        judgeStreets(now, minute);
        bring(now, minute);
        for (int place = 0; place < PLACES && bar == 0; place++) {
          judgePlace(now.town, place, minute);
        }
        outBy[minute] = out;
        slowOutBy[minute] = slowOut;
      }
    }

    private void setBar(int number, int minute, int at) {
      bar = number;
      barMinute = minute;
      barAt = at;
    }

    private void judgeStreets(State now, int minute) {
      for (int street = 0; street < now.town.streets && bar == 0; street++) {
        int plain = now.plain[street * MINUTES + minute];
        int slow = now.slow[street * MINUTES + minute];
        boolean shut = plain + slow > 0 && !now.town.isOpen(street, minute);
        if (shut || plain + 2 * slow > now.town.width[street]) {
          setBar(1, minute, street);
        }
      }
    }

    private void bring(State now, int minute) {
      Arrays.fill(enters, 0);
      Arrays.fill(slowEnters, 0);
      for (int street = 0; street < now.town.streets; street++) {
        int from = now.begin(street);
        int to = now.finish(street);
        int went = minute - now.town.minutes[street];
        enters[from] += now.plain[street * MINUTES + minute];
        slowEnters[from] += now.slow[street * MINUTES + minute];
        if (went >= 0) {
          there[to] += now.plain[street * MINUTES + went];
        }
        if (went >= 1) {
          slowThere[to] += now.slow[street * MINUTES + went - 1];
        }
      }
    }

    private void judgePlace(Town town, int place, int minute) {
      int lack = comeOut(town, place, minute, enters[place] - there[place], false);
      int slowLack = comeOut(town, place, minute, slowEnters[place] - slowThere[place], true);
      if (lack > 0 || slowLack > 0) {
        setBar(2, minute, place);
        return;
      }
      there[place] = Math.max(0, there[place] - enters[place]);
      slowThere[place] = Math.max(0, slowThere[place] - slowEnters[place]);
      goOut(town, place, minute);
      if (there[place] + slowThere[place] > town.hold[place]) {
        setBar(3, minute, place);
      }
    }

    /** Brings out of doors as many as are needed: how many are lacking still. */
    private int comeOut(Town town, int place, int minute, int needed, boolean slowly) {
      int lack = Math.max(0, needed);
      for (int door = 0; door < town.doors; door++) {
        if (isOfDoor(town, door, place, minute) && town.isSlow(door) == slowly) {
          int n = Math.min(lack, behind[door]);
          behind[door] -= n;
          lack -= n;
        }
      }
      return lack;
    }

    private static boolean isOfDoor(Town town, int door, int place, int minute) {
      return town.doorPlace[door] == place && town.doorMinute[door] <= minute;
    }

    private void goOut(Town town, int place, int minute) {
      int plain = Math.min(there[place], takes[place]);
      there[place] -= plain;
      countOut(place, plain, false);
      int slow = Math.min(slowThere[place], takes[place]);
      slowThere[place] -= slow;
      countOut(place, slow, true);
      for (int door = 0; door < town.doors; door++) {
        if (isOfDoor(town, door, place, minute)) {
          int n = Math.min(behind[door], takes[place]);
          behind[door] -= n;
          countOut(place, n, town.isSlow(door));
        }
      }
    }

    private void countOut(int place, int n, boolean slowly) {
      takes[place] -= n;
      out += n;
      slowOut += slowly ? n : 0;
    }
  }

  /** Takes the way told apart, piece by piece. */
  private static final class Apart {
    private final int[] left = new int[CELLS];
    private final int[] line = new int[MINUTES];
    private int streets = 0;
    private int minute = 0;
    private int people = 0;
    private int pieces = 0;

    private int countPieces(State now) {
      findPiece(now, CELLS);
      return pieces;
    }

    private boolean findPiece(State now, int wanted) {
      System.arraycopy(now.plain, 0, left, 0, CELLS);
      pieces = 0;
      for (int t = 0; t < MINUTES; t++) {
        for (int street = 0; street < now.town.streets; street++) {
          int cell = street * MINUTES + t;
          for (int n = 0; n < TOLD && left[cell] > 0; n++) {
            follow(now, street, t);
            if (pieces == wanted) {
              return true;
            }
            pieces++;
          }
        }
      }
      return false;
    }

    private void follow(State now, int first, int start) {
      minute = start;
      streets = 0;
      people = TOLD;
      int street = first;
      int at = start;
      while (street != NONE && at < MINUTES && streets < MINUTES) {
        line[streets] = street;
        streets++;
        people = Math.min(people, left[street * MINUTES + at]);
        at += now.town.minutes[street];
        street = lowestLeft(now, now.finish(street), at);
      }
      takeAway(now, start);
    }

    private int lowestLeft(State now, int place, int at) {
      if (at >= MINUTES) {
        return NONE;
      }
      for (int street = 0; street < now.town.streets; street++) {
        if (now.begin(street) == place && left[street * MINUTES + at] > 0) {
          return street;
        }
      }
      return NONE;
    }

    private void takeAway(State now, int start) {
      int at = start;
      for (int i = 0; i < streets && at < MINUTES; i++) {
        left[line[i] * MINUTES + at] -= people;
        at += now.town.minutes[line[i]];
      }
    }
  }

  /** Lets people go by a plan of signs: for each place and minute a street, or none. */
  private static final class Walk {
    private static final int COMING = MINUTES + LONGEST;

    private final int[] plan = new int[PLACES * MINUTES];
    private final int[] there = new int[PLACES];
    private final int[] takes = new int[PLACES];
    private final int[] coming = new int[PLACES * COMING];
    private final int[] outBy = new int[MINUTES];
    private int fallen = NONE;
    private int fallMinute = 0;

    private void letFall(int street, int minute) {
      fallen = street;
      fallMinute = minute;
    }

    private void setPlan(int place, int from, int street) {
      for (int t = from; t < MINUTES; t++) {
        plan[place * MINUTES + t] = street;
      }
    }

    private void planSigns(State now) {
      for (int place = 0; place < PLACES; place++) {
        planPlace(now, place);
      }
    }

    private void planPlace(State now, int place) {
      setPlan(place, 0, now.signs[place]);
      for (int t = 1; t < MINUTES; t++) {
        int change = now.changeAt(place, t);
        if (change != NONE) {
          setPlan(place, t, now.changeStreet[change]);
        }
      }
    }

    /** One change in the plan of a place, up to the next one that is told for it. */
    private void planChange(State now, int place, int minute, int street) {
      for (int t = minute; t < MINUTES; t++) {
        if (t > minute && now.changeAt(place, t) != NONE) {
          return;
        }
        plan[place * MINUTES + t] = street;
      }
    }

    /** Goes up to a minute: the sum of what are out by each one. */
    private int go(State now, int till) {
      Arrays.fill(there, 0);
      Arrays.fill(coming, 0);
      System.arraycopy(now.town.safe, 0, takes, 0, PLACES);
      int out = 0;
      int sum = 0;
      for (int t = 0; t <= till && t < MINUTES; t++) {
        for (int door = 0; door < now.town.doors; door++) {
          there[now.town.doorPlace[door]] += now.town.doorMinute[door] == t ? now.town.doorPeople[door] : 0;
        }
        for (int place = 0; place < PLACES; place++) {
          there[place] += coming[place * COMING + t];
          int n = Math.min(there[place], takes[place]);
          there[place] -= n;
          takes[place] -= n;
          out += n;
          enterBySign(now, place, t);
        }
        outBy[t] = out;
        sum += out;
      }
      return sum;
    }

    private void enterBySign(State now, int place, int t) {
      int street = plan[place * MINUTES + t];
      if (street == NONE || !now.town.isOpen(street, t) || street == fallen && t >= fallMinute) {
        return;
      }
      int n = Math.min(there[place], now.town.width[street]);
      there[place] -= n;
      coming[now.finish(street) * COMING + t + now.town.minutes[street]] += n;
    }

    private int onStreets(int t) {
      int sum = 0;
      for (int place = 0; place < PLACES; place++) {
        for (int later = t + 1; later < COMING; later++) {
          sum += coming[place * COMING + later];
        }
      }
      return sum;
    }
  }

  /** Looks for the signs, and the change of signs, that bring people out soonest. */
  private static final class Guide {
    private boolean bestKnown = false;
    private final int[] best = new int[PLACES];
    private int sumOfBest = NONE;
    private final int[] choice = new int[PLACES];
    private final int[] firstGreatest = new int[PLACES];
    private int changePlace = NONE;
    private int changeMinute = NONE;
    private int changeStreet = NONE;
    private int changeSum = NONE;
    private int sumWithout = 0;

    private void forget() {
      bestKnown = false;
    }

    private void findBest(State now, Walk walk) {
      if (!bestKnown) {
        bestKnown = true;
        sumOfBest = greatest(now, walk, 0);
        System.arraycopy(firstGreatest, 0, best, 0, PLACES);
      }
    }

    private int knownSum(State now, Walk walk, int street, int minute) {
      walk.letFall(street, minute);
      int sum = greatest(now, walk, 0);
      walk.letFall(NONE, 0);
      return sum;
    }

    /** Best signs are found ahead of it. */
    private int lateSum(State now, Walk walk, int street, int minute) {
      for (int place = 0; place < PLACES; place++) {
        walk.setPlan(place, 0, best[place]);
      }
      walk.letFall(street, minute);
      int sum = greatest(now, walk, minute);
      walk.letFall(NONE, 0);
      return sum;
    }

    /** The greatest sum of all choices of signs from a minute on; NONE for too many choices. */
    private int greatest(State now, Walk walk, int from) {
      int choices = 1;
      for (int place = 0; place < PLACES; place++) {
        choice[place] = now.nextFrom(place, NONE);
        choices *= streetsFrom(now, place);
        walk.setPlan(place, from, choice[place]);
      }
      if (choices > CHOICES) {
        return NONE;
      }
      int greatest = NONE;
      for (int n = 0; n < choices; n++) {
        int sum = walk.go(now, LAST);
        if (sum > greatest) {
          greatest = sum;
          System.arraycopy(choice, 0, firstGreatest, 0, PLACES);
        }
        nextChoice(now, walk, from);
      }
      return greatest;
    }

    /** At least 1: a place without streets has the one choice of none. */
    private static int streetsFrom(State now, int place) {
      int streets = 0;
      for (int street = 0; street < now.town.streets; street++) {
        streets += now.begin(street) == place ? 1 : 0;
      }
      return Math.max(1, streets);
    }

    private void nextChoice(State now, Walk walk, int from) {
      for (int place = PLACES - 1; place >= 0; place--) {
        if (choice[place] == NONE) {
          continue;
        }
        int next = now.nextFrom(place, choice[place]);
        choice[place] = next != NONE ? next : now.nextFrom(place, NONE);
        walk.setPlan(place, from, choice[place]);
        if (next != NONE) {
          return;
        }
      }
    }

    private void findChange(State now, Walk walk) {
      changePlace = NONE;
      changeMinute = NONE;
      changeStreet = NONE;
      changeSum = NONE;
      walk.planSigns(now);
      sumWithout = walk.go(now, LAST);
      for (int place = 0; place < PLACES; place++) {
        for (int minute = 1; minute < MINUTES; minute++) {
          if (now.changes < CHANGES || now.changeAt(place, minute) != NONE) {
            tryChanges(now, walk, place, minute);
          }
        }
      }
    }

    private void tryChanges(State now, Walk walk, int place, int minute) {
      int street = now.nextFrom(place, NONE);
      for (int n = 0; n < STREETS && street != NONE; n++) {
        walk.planChange(now, place, minute, street);
        int sum = walk.go(now, LAST);
        if (sum > sumWithout && sum > changeSum) {
          changePlace = place;
          changeMinute = minute;
          changeStreet = street;
          changeSum = sum;
        }
        street = now.nextFrom(place, street);
      }
      walk.planPlace(now, place);
    }
  }
}
