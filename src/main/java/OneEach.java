import java.util.Arrays;

/** One of each to a street: a town, its law, its livings and its moves, as ../shared/DOC.md promises them. */
public final class OneEach {
  private static final int STREETS = 5;
  private static final int PEOPLE = 8;
  private static final int HOUSES = 4;
  private static final int CRAFTS = 8;
  private static final int ALL_CRAFTS = 255;
  private static final int MOST_EACH = 3;
  private static final int MOST_NEAR = 9;
  private static final int FIRST_WAY = 5;
  private static final int FIRST_WISH = 10;
  private static final int SHELVES = 8;
  private static final int ROW_SIZE = 100;
  private static final int MOST_YEARS = 30;
  private static final int MOST_DEATH = 99;

  /** Where somebody is who lives in no street. */
  private static final int NOWHERE = 9;

  private static final int NOT_AS_TOLD = -1;
  private static final int NO_ROOM = -2;
  private static final int NOT_NOW = -3;
  private static final int NO_SUCH = -4;
  private static final int NOTHING_HELD = -11;
  private static final int OTHER_KIND = -12;
  private static final int NO_PLACE = -13;
  private static final int BELOW_NOTHING = -14;
  private static final int NO_FAILURE = -15;

  private final Town town = new Town();
  private final Town pictured = new Town();
  private final Town draft = new Town();
  private final TownText text = new TownText();
  private final Placing placing = new Placing();
  private final Trials trials = new Trials();
  private final Shelf[] shelves = new Shelf[SHELVES];
  private boolean hasPicture = false;

  public OneEach() {
    for (int d = 0; d < SHELVES; d++) {
      shelves[d] = new Shelf();
    }
  }

  // ---- towns

  public int town(int d) {
    int refusal = refusalOfBytes(d);
    if (refusal != 0) {
      return refusal;
    }
    draft.become(town);
    int answer = text.readInto(draft, shelves[d]);
    if (answer > 0) {
      town.become(draft);
    }
    return answer;
  }

  public int street(int street, int what) {
    if (!town.hasStreet(street)) {
      return NOT_AS_TOLD;
    }
    switch (what) {
      case 0:
        return town.houses[street];
      case 1:
        return town.crowdIn(street);
      case 2:
        return town.craftsIn(street);
      case 3:
        return town.shownIn(street);
      default:
        return NOT_AS_TOLD;
    }
  }

  public int way(int a, int b) {
    if (!town.hasStreet(a) || !town.hasStreet(b)) {
      return NOT_AS_TOLD;
    }
    return town.minutes(a, b);
  }

  public int person(int person, int what) {
    if (!town.hasPerson(person)) {
      return NOT_AS_TOLD;
    }
    switch (what) {
      case 0:
        return town.crafts[person];
      case 1:
        return town.hides[person];
      case 2:
        return town.ties[person];
      case 3:
        return streetOrNoSuch(town.homes[person]);
      case 4:
        return town.worthNow(person);
      default:
        return NOT_AS_TOLD;
    }
  }

  public int wish(int person, int street) {
    if (!town.hasPerson(person) || !town.hasStreet(street)) {
      return NOT_AS_TOLD;
    }
    return town.wishOf(person, street);
  }

  public int law(int what, int n) {
    int was;
    switch (what) {
      case 0:
        if (!isEach(n)) {
          return NOT_AS_TOLD;
        }
        was = town.each;
        town.each = n;
        return was;
      case 1:
        if (!isNear(n)) {
          return NOT_AS_TOLD;
        }
        was = town.near;
        town.near = n;
        return was;
      case 2:
        if (n < 0 || n > ALL_CRAFTS) {
          return NOT_AS_TOLD;
        }
        was = town.counting;
        town.counting = n;
        return was;
      default:
        return NOT_AS_TOLD;
    }
  }

  // ---- livings, moves

  public int lives(int person, int street) {
    if (!town.hasPerson(person) || !town.hasStreetOrNowhere(street)) {
      return NOT_AS_TOLD;
    }
    int was = town.homes[person];
    town.homes[person] = street;
    return was;
  }

  public int lawful() {
    return oneIf(town.isLawful());
  }

  public int firstUnlawful() {
    return town.firstBroken();
  }

  public int worth() {
    return town.worthOfAll();
  }

  public int worthIn(int person, int street) {
    if (!town.hasPerson(person) || !town.hasStreet(street)) {
      return NOT_AS_TOLD;
    }
    return town.worthAt(person, street);
  }

  public int wanted(int d, int what) {
    if (what < 0 || what > 1) {
      return NOT_AS_TOLD;
    }
    int refusal = refusalOfDoing(d);
    if (refusal != 0) {
      return refusal;
    }
    Move move = shelves[d].move;
    return oneIf(what == 0 ? trials.isWanted(town, move) : trials.mayBe(town, move));
  }

  public int move(int d) {
    int refusal = refusalOfDoing(d);
    if (refusal != 0) {
      return refusal;
    }
    if (!trials.isOpen(town, shelves[d].move)) {
      return NOT_NOW;
    }
    int changed = trials.then.movedSince(town);
    town.become(trials.then);
    return changed;
  }

  public int judge(int d) {
    int refusal = refusalOfBytes(d);
    if (refusal != 0) {
      return refusal;
    }
    return trials.firstMisjudged(town, shelves[d]);
  }

  // ---- the most, the best, the stable

  public int most(int person) {
    if (person != -1 && !town.hasPerson(person)) {
      return NOT_AS_TOLD;
    }
    int answer = placing.largest(town);
    return person == -1 ? answer : streetOrNoSuch(placing.chosen[person]);
  }

  public int best(int person) {
    if (person != -1 && !town.hasPerson(person)) {
      return NOT_AS_TOLD;
    }
    int answer = placing.dearest(town);
    return person == -1 ? answer : streetOrNoSuch(placing.chosen[person]);
  }

  public int stable() {
    return oneIf(!trials.anyOpen(town));
  }

  public int found(int person) {
    if (person != -1 && !town.hasPerson(person)) {
      return NOT_AS_TOLD;
    }
    int answer = trials.settle(town);
    return person == -1 ? answer : streetOrNoSuch(trials.mind.homes[person]);
  }

  public int shortest(int i) {
    if (i < -1) {
      return NOT_AS_TOLD;
    }
    int steps = trials.findSteps(town);
    // the document names no last i: one behind the last step is none, however far behind
    if (steps == 0 || i >= steps) {
      return NO_SUCH;
    }
    return i == -1 ? steps : trials.steps[i];
  }

  // ---- crafts, ways, prices

  public int learn(int person) {
    return town.hasPerson(person) ? trials.bestLesson(town, person) : NOT_AS_TOLD;
  }

  public int where(int person) {
    return town.hasPerson(person) ? streetOrNoSuch(town.bestStreet(person)) : NOT_AS_TOLD;
  }

  public int walk(int street, int craft) {
    if (!town.hasStreet(street) || !isCraft(craft)) {
      return NOT_AS_TOLD;
    }
    return town.crowdWith(street, craft) > 0 ? 0 : town.walkToOther(street, craft);
  }

  public int price(int street, int craft) {
    if (!town.hasStreet(street) || !isCraft(craft)) {
      return NOT_AS_TOLD;
    }
    return town.priceAt(street, craft);
  }

  public int alone() {
    return town.craftsAlone();
  }

  // ---- years, other streets, other laws

  public int years(int n, int z, int death, int what) {
    if (!areYears(n, death) || what < 0 || what > 1) {
      return NOT_AS_TOLD;
    }
    trials.liveOn(town, n, z, death);
    return what == 0 ? trials.mind.crowdIn(NOWHERE) : trials.gone;
  }

  public int waits(int person, int n, int z, int death) {
    if (!town.hasPerson(person) || !areYears(n, death)) {
      return NOT_AS_TOLD;
    }
    trials.liveOn(town, n, z, death);
    return trials.waited[person];
  }

  public int length() {
    if (town.streets == 0) {
      return NOT_NOW;
    }
    draft.become(town);
    for (int houses = 1; houses <= HOUSES; houses++) {
      Arrays.fill(draft.houses, houses);
      if (placing.largest(draft) == town.people) {
        return houses;
      }
    }
    return NO_SUCH;
  }

  public int newly(int houses) {
    if (houses < 1 || houses > HOUSES) {
      return NOT_AS_TOLD;
    }
    if (!town.hasRoomForStreet()) {
      return NO_ROOM;
    }
    draft.become(town);
    draft.addStreet(houses);
    return placing.largest(draft) - placing.largest(town);
  }

  public int byLaw(int each, int near) {
    if (!isEach(each) || !isNear(near)) {
      return NOT_AS_TOLD;
    }
    draft.become(town);
    draft.each = each;
    draft.near = near;
    return placing.largest(draft);
  }

  public int hiding() {
    draft.become(town);
    Arrays.fill(draft.hides, 0);
    return placing.largest(town) - placing.largest(draft);
  }

  // ---- the image, what is told

  public int image() {
    pictured.become(town);
    hasPicture = true;
    return town.people;
  }

  public int restore() {
    if (!hasPicture) {
      return NOT_NOW;
    }
    town.become(pictured);
    return town.people;
  }

  public int count(int what) {
    switch (what) {
      case 0:
        return town.streets;
      case 1:
        return town.people;
      case 2:
        return town.allHouses();
      case 3:
        return town.people - town.crowdIn(NOWHERE);
      case 4:
        return town.tiedPeople();
      case 5:
        return town.hidingPeople();
      default:
        return NOT_AS_TOLD;
    }
  }

  // ---- shelves

  public int keep(int d, int what, int k, int wot) {
    if (!isShelf(d)) {
      return NOT_AS_TOLD;
    }
    if (what == 0) {
      shelves[d].holds = Shelf.NOTHING;
      return 0;
    }
    if (what != 1 || k < 0 || k > Move.LAST_KIND || wot < 0 || wot > Move.LAST_WOT) {
      return NOT_AS_TOLD;
    }
    shelves[d].move.become(k, wot / 100, wot / 10 % 10, wot % 10);
    shelves[d].holds = Shelf.A_MOVE;
    return 0;
  }

  public int row(int d, int sort, int n) {
    if (!isShelf(d) || sort < Shelf.BYTES || sort > Shelf.INTS || n > ROW_SIZE) {
      return NOT_AS_TOLD;
    }
    if (n < 0) {
      return BELOW_NOTHING;
    }
    shelves[d].holdRow(sort, n);
    return 0;
  }

  public int put(int d, int i, int v) {
    int refusal = refusalOf(d, Shelf.A_ROW);
    if (refusal != 0) {
      return refusal;
    }
    if (!shelves[d].hasPlace(i)) {
      return NO_PLACE;
    }
    shelves[d].setElement(i, v);
    return 0;
  }

  public long element(int d, int i) throws IllegalArgumentException, IllegalStateException {
    if (!isShelf(d)) {
      throw new IllegalArgumentException("no such shelf");
    }
    if (shelves[d].holds != Shelf.A_ROW) {
      throw new IllegalStateException("no row");
    }
    if (!shelves[d].hasPlace(i)) {
      throw new IllegalStateException("no such place");
    }
    return shelves[d].elements[i];
  }

  public int copy(int d, int i, int e, int j, int n) {
    if (!isShelf(d) || !isShelf(e)) {
      return NOT_AS_TOLD;
    }
    Shelf from = shelves[d];
    Shelf to = shelves[e];
    if (from.holds == Shelf.NOTHING || to.holds == Shelf.NOTHING) {
      return NOTHING_HELD;
    }
    if (from.holds != Shelf.A_ROW || to.holds != Shelf.A_ROW || from.sort != to.sort) {
      return OTHER_KIND;
    }
    if (!from.hasPlaces(i, n) || !to.hasPlaces(j, n)) {
      return NO_PLACE;
    }
    System.arraycopy(from.elements, i, to.elements, j, n);
    return n;
  }

  public int letters(int d) {
    int refusal = refusalOf(d, Shelf.A_MOVE);
    return refusal != 0 ? refusal : shelves[d].move.letterCount();
  }

  public int toss(int d) {
    int refusal = refusalOf(d, Shelf.A_MOVE);
    if (refusal != 0) {
      return refusal;
    }
    Move move = shelves[d].move;
    try {
      move.fail();
    } catch (UnsupportedOperationException e) {
      return 200 + move.letterCount();
    } catch (IllegalArgumentException e) {
      return 100 + move.who;
    } catch (IllegalStateException e) {
      return move.who;
    }
    return NO_FAILURE;
  }

  // ---- what the calls share

  private static boolean isShelf(int d) {
    return d >= 0 && d < SHELVES;
  }

  private static boolean isCraft(int craft) {
    return craft >= 0 && craft < CRAFTS;
  }

  private static boolean isEach(int n) {
    return n >= 1 && n <= MOST_EACH;
  }

  private static boolean isNear(int n) {
    return n >= 0 && n <= MOST_NEAR;
  }

  private static boolean areYears(int n, int death) {
    return n >= 1 && n <= MOST_YEARS && death >= 0 && death <= MOST_DEATH;
  }

  private static int oneIf(boolean so) {
    return so ? 1 : 0;
  }

  private static int streetOrNoSuch(int home) {
    return home == NOWHERE ? NO_SUCH : home;
  }

  private int refusalOf(int d, int held) {
    if (!isShelf(d)) {
      return NOT_AS_TOLD;
    }
    if (shelves[d].holds == Shelf.NOTHING) {
      return NOTHING_HELD;
    }
    return shelves[d].holds == held ? 0 : OTHER_KIND;
  }

  private int refusalOfBytes(int d) {
    int refusal = refusalOf(d, Shelf.A_ROW);
    if (refusal == 0 && shelves[d].sort != Shelf.BYTES) {
      return OTHER_KIND;
    }
    return refusal;
  }

  private int refusalOfDoing(int d) {
    int refusal = refusalOf(d, Shelf.A_MOVE);
    if (refusal == 0 && !shelves[d].move.isThereIn(town)) {
      return NO_PLACE;
    }
    return refusal;
  }

  /** Streets, people, the law and the living; also a draft of them, in which something is tried. */
  private static final class Town {
    private static final int IN_EACH_NIBBLE = 0x11111111;
    private static final int TOP_OF_EACH_NIBBLE = 0x88888888;

    private int streets = 0;
    private final int[] houses = new int[STREETS];
    private final int[] ways = new int[STREETS * STREETS];
    private int people = 0;
    private final int[] crafts = new int[PEOPLE];
    private final int[] hides = new int[PEOPLE];
    private final int[] ties = new int[PEOPLE];
    private final int[] wishes = new int[PEOPLE * STREETS];
    private final int[] homes = new int[PEOPLE];
    private int each = 1;
    private int near = 0;
    private int counting = ALL_CRAFTS;
    private final int[] loads = new int[STREETS];

    private void become(Town other) {
      streets = other.streets;
      System.arraycopy(other.houses, 0, houses, 0, STREETS);
      System.arraycopy(other.ways, 0, ways, 0, STREETS * STREETS);
      people = other.people;
      System.arraycopy(other.crafts, 0, crafts, 0, PEOPLE);
      System.arraycopy(other.hides, 0, hides, 0, PEOPLE);
      System.arraycopy(other.ties, 0, ties, 0, PEOPLE);
      System.arraycopy(other.wishes, 0, wishes, 0, PEOPLE * STREETS);
      System.arraycopy(other.homes, 0, homes, 0, PEOPLE);
      each = other.each;
      near = other.near;
      counting = other.counting;
    }

    private boolean hasStreet(int street) {
      return street >= 0 && street < streets;
    }

    private boolean hasStreetOrNowhere(int street) {
      return street == NOWHERE || hasStreet(street);
    }

    private boolean hasPerson(int person) {
      return person >= 0 && person < people;
    }

    private boolean hasRoomForStreet() {
      return streets < STREETS;
    }

    private boolean hasRoomForPerson() {
      return people < PEOPLE;
    }

    private void addStreet(int withHouses) {
      if (!hasRoomForStreet()) {
        return;
      }
      int street = streets;
      streets++;
      houses[street] = withHouses;
      for (int other = 0; other < street; other++) {
        setMinutes(street, other, FIRST_WAY);
      }
      for (int person = 0; person < people; person++) {
        setWish(person, street, FIRST_WISH);
      }
    }

    private void addPerson(int itsCrafts, int tie, int hidden) {
      if (!hasRoomForPerson()) {
        return;
      }
      int person = people;
      people++;
      crafts[person] = itsCrafts;
      ties[person] = tie;
      hides[person] = hidden;
      homes[person] = NOWHERE;
      for (int street = 0; street < streets; street++) {
        setWish(person, street, FIRST_WISH);
      }
    }

    private int minutes(int a, int b) {
      return ways[a * STREETS + b];
    }

    private void setMinutes(int a, int b, int n) {
      ways[a * STREETS + b] = n;
      ways[b * STREETS + a] = n;
    }

    private int wishOf(int person, int street) {
      return wishes[person * STREETS + street];
    }

    private void setWish(int person, int street, int n) {
      wishes[person * STREETS + street] = n;
    }

    /** How many are there; of NOWHERE too. */
    private int crowdIn(int street) {
      int crowd = 0;
      for (int person = 0; person < people; person++) {
        if (homes[person] == street) {
          crowd++;
        }
      }
      return crowd;
    }

    private int crowdWith(int street, int craft) {
      int crowd = 0;
      for (int person = 0; person < people; person++) {
        if (homes[person] == street && ((crafts[person] >> craft) & 1) == 1) {
          crowd++;
        }
      }
      return crowd;
    }

    private int craftsIn(int street) {
      return craftsOfOthers(street, NOWHERE);
    }

    private int craftsOfOthers(int street, int but) {
      int all = 0;
      for (int person = 0; person < people; person++) {
        if (homes[person] == street && person != but) {
          all |= crafts[person];
        }
      }
      return all;
    }

    private int shownIn(int street) {
      int all = 0;
      for (int person = 0; person < people; person++) {
        if (homes[person] == street) {
          all |= crafts[person] & ~hides[person];
        }
      }
      return all;
    }

    private int worthAt(int person, int street) {
      int own = crafts[person] & ~craftsOfOthers(street, person);
      return wishOf(person, street) + 3 * Integer.bitCount(own);
    }

    private int worthNow(int person) {
      return homes[person] == NOWHERE ? 0 : worthAt(person, homes[person]);
    }

    private int worthOfAll() {
      int sum = 0;
      for (int person = 0; person < people; person++) {
        sum += worthNow(person);
      }
      return sum;
    }

    private boolean countTogether(int a, int b) {
      return a == b || ways[a * STREETS + b] < near;
    }

    /** The crafts of one for the law, one nibble a craft: so those of all can be counted by adding. */
    private int loadOf(int person) {
      int load = crafts[person] & ~hides[person] & counting;
      load = (load | load << 12) & 0x000F000F;
      load = (load | load << 6) & 0x03030303;
      return (load | load << 3) & IN_EACH_NIBBLE;
    }

    /** No nibble runs over: eight people at most, and six are added, stay below sixteen. */
    private boolean isTooMuch(int load) {
      return ((load + (7 - each) * IN_EACH_NIBBLE) & TOP_OF_EACH_NIBBLE) != 0;
    }

    /** A street's load is that of all streets that count together with it. */
    private void addLoad(int street, int load) {
      for (int other = 0; other < streets; other++) {
        if (countTogether(street, other)) {
          loads[other] += load;
        }
      }
    }

    private void weighStreets() {
      Arrays.fill(loads, 0);
      for (int person = 0; person < people; person++) {
        if (homes[person] != NOWHERE) {
          addLoad(homes[person], loadOf(person));
        }
      }
    }

    private boolean lawHolds() {
      weighStreets();
      for (int street = 0; street < streets; street++) {
        if (isTooMuch(loads[street])) {
          return false;
        }
      }
      return true;
    }

    private boolean tiesHold() {
      for (int person = 0; person < people; person++) {
        int tie = ties[person];
        if (tie != NO_SUCH && homes[person] != homes[tie]
            && homes[person] != NOWHERE && homes[tie] != NOWHERE) {
          return false;
        }
      }
      return true;
    }

    private int firstBroken() {
      weighStreets();
      for (int street = 0; street < streets; street++) {
        if (crowdIn(street) > houses[street] || isTooMuch(loads[street])) {
          return street;
        }
      }
      return tiesHold() ? NO_SUCH : NOWHERE;
    }

    private boolean isLawful() {
      return firstBroken() == NO_SUCH;
    }

    /** Whether the living is lawful once one has gone to a street. */
    private boolean mayGo(int person, int street) {
      int was = homes[person];
      homes[person] = street;
      boolean may = firstBroken() == NO_SUCH;
      homes[person] = was;
      return may;
    }

    private boolean wantsToGo(int person, int street) {
      return homes[person] != street && worthAt(person, street) > worthNow(person);
    }

    /** NOWHERE, if it may be in none. */
    private int bestStreet(int person) {
      int found = NOWHERE;
      int most = -1;
      for (int street = 0; street < streets; street++) {
        int worth = worthAt(person, street);
        if (worth > most && mayGo(person, street)) {
          found = street;
          most = worth;
        }
      }
      return found;
    }

    private int movedSince(Town before) {
      int moved = 0;
      for (int person = 0; person < people; person++) {
        if (homes[person] != before.homes[person]) {
          moved++;
        }
      }
      return moved;
    }

    /** Whether some moved, and all of them have more worth now, if that is asked. */
    private boolean isWantedSince(Town before, boolean asksWorth) {
      boolean hasMoved = false;
      for (int person = 0; person < people; person++) {
        if (homes[person] != before.homes[person]) {
          hasMoved = true;
          if (asksWorth && worthNow(person) <= before.worthNow(person)) {
            return false;
          }
        }
      }
      return hasMoved;
    }

    private int walkToOther(int street, int craft) {
      int least = NO_SUCH;
      for (int other = 0; other < streets; other++) {
        if (other != street && crowdWith(other, craft) > 0
            && (least == NO_SUCH || minutes(street, other) < least)) {
          least = minutes(street, other);
        }
      }
      return least;
    }

    private int priceAt(int street, int craft) {
      int crowd = crowdWith(street, craft);
      if (crowd == 0) {
        return 0;
      }
      int walk = walkToOther(street, craft);
      int dear = 10 + (walk == NO_SUCH ? 20 : 2 * walk);
      return Math.max(0, dear - 5 * (crowd - 1));
    }

    private int craftsAlone() {
      int once = 0;
      int more = 0;
      for (int person = 0; person < people; person++) {
        if (homes[person] != NOWHERE) {
          more |= once & crafts[person];
          once |= crafts[person];
        }
      }
      return Integer.bitCount(once & ~more);
    }

    private int allHouses() {
      int sum = 0;
      for (int street = 0; street < streets; street++) {
        sum += houses[street];
      }
      return sum;
    }

    private int tiedPeople() {
      int tied = 0;
      for (int person = 0; person < people; person++) {
        if (ties[person] != NO_SUCH) {
          tied++;
        }
      }
      return tied;
    }

    private int hidingPeople() {
      int hiding = 0;
      for (int person = 0; person < people; person++) {
        if (hides[person] != 0) {
          hiding++;
        }
      }
      return hiding;
    }
  }

  /** What stands on a shelf: nothing, a move or a row; the places for both are kept for the next. */
  private static final class Shelf {
    private static final int NOTHING = 0;
    private static final int A_MOVE = 1;
    private static final int A_ROW = 2;
    private static final int BYTES = 0;
    private static final int SHORTS = 1;
    private static final int INTS = 2;

    private int holds = NOTHING;
    private final Move move = new Move();
    private int sort = BYTES;
    private int size = 0;
    private final int[] elements = new int[ROW_SIZE];

    private void holdRow(int itsSort, int itsSize) {
      holds = A_ROW;
      sort = itsSort;
      size = itsSize;
      Arrays.fill(elements, 0);
    }

    private boolean hasPlace(int i) {
      return i >= 0 && i < size;
    }

    private boolean hasPlaces(int from, int n) {
      return from >= 0 && n >= 0 && from <= size && n <= size - from;
    }

    private void setElement(int i, int v) {
      if (sort == BYTES) {
        elements[i] = (byte) v;
      } else if (sort == SHORTS) {
        elements[i] = (short) v;
      } else {
        elements[i] = v;
      }
    }
  }

  /** One move: its kind, who, other and to. */
  private static final class Move {
    private static final int MOVE = 0;
    private static final int ONE = 1;
    private static final int SWAP = 2;
    private static final int CHAIN = 3;
    private static final int WAIT = 4;
    private static final int PAIR = 5;
    private static final int TOLD = 6;
    private static final int HIDDEN = 7;
    private static final int LAST_KIND = HIDDEN;
    /** One digit each for who, other and to, there or not. */
    private static final int LAST_WOT = 999;

    private int kind = MOVE;
    private int who = 0;
    private int other = 0;
    private int to = 0;

    private void become(int itsKind, int itsWho, int itsOther, int itsTo) {
      kind = itsKind;
      who = itsWho;
      other = itsOther;
      to = itsTo;
    }

    private boolean asksOther() {
      return kind == SWAP || kind == PAIR;
    }

    private boolean asksTo() {
      return kind != MOVE && kind != TOLD && kind != SWAP;
    }

    private boolean isThereIn(Town t) {
      return t.hasPerson(who) && (!asksOther() || t.hasPerson(other)) && (!asksTo() || t.hasStreet(to));
    }

    /** Does it in a town in which it is there. */
    private void doIn(Town t) {
      switch (kind) {
        case ONE:
          t.homes[who] = to;
          break;
        case SWAP:
          swapIn(t);
          break;
        case CHAIN:
          chainIn(t);
          break;
        case WAIT:
          if (t.crowdIn(to) < t.houses[to]) {
            t.homes[who] = to;
          }
          break;
        case PAIR:
          t.homes[who] = to;
          t.homes[other] = to;
          break;
        case TOLD:
          t.homes[who] = NOWHERE;
          break;
        case HIDDEN:
          t.homes[who] = to;
          t.hides[who] = t.crafts[who];
          break;
        default:
          break;
      }
    }

    private void swapIn(Town t) {
      int home = t.homes[who];
      t.homes[who] = t.homes[other];
      t.homes[other] = home;
    }

    private void chainIn(Town t) {
      int home = t.homes[who];
      boolean isFull = t.crowdIn(to) >= t.houses[to];
      t.homes[who] = to;
      for (int person = 0; isFull && person < t.people; person++) {
        if (person != who && t.homes[person] == to) {
          t.homes[person] = home;
          return;
        }
      }
    }

    private int letterCount() {
      switch (kind) {
        case ONE:
          return lettersOfOne();
        case SWAP:
          return lettersOfSwap();
        case CHAIN:
          return lettersOfOne() + to;
        case WAIT:
          return lettersOfOne() * 2;
        case PAIR:
          return lettersOfSwap() + other;
        case TOLD:
          return lettersOfMove() - 1;
        case HIDDEN:
          return lettersOfOne() + who;
        default:
          return lettersOfMove();
      }
    }

    private static int lettersOfMove() {
      return 1;
    }

    private static int lettersOfOne() {
      return lettersOfMove() + 2;
    }

    private static int lettersOfSwap() {
      return lettersOfMove() * 4;
    }

    /** Throws the failure of its kind; comes back if it has none. */
    private void fail() {
      if (kind == TOLD || who == 0) {
        return;
      }
      if (kind == HIDDEN) {
        throw new UnsupportedOperationException("a hidden one");
      }
      if (kind == PAIR) {
        throw new IllegalArgumentException("a pair");
      }
      throw new IllegalStateException("a move");
    }
  }

  /** Reads statements from bytes: first whether they are well formed, then whether they can be done. */
  private static final class TownText {
    private static final int NO_BYTE = -1000;
    private static final int FAULT_OF_FORM = -1000;
    private static final int FAULT_OF_DOING = -2000;

    private int[] bytes = new int[0];
    private int size = 0;
    private int at = 0;
    private int letter = 0;
    private int first = 0;
    private int second = 0;
    private int number = 0;
    private int set = 0;
    private int hidden = 0;

    /** How many statements, all of them done in the town; or the fault, and the town is spoilt. */
    private int readInto(Town t, Shelf shelf) {
      bytes = shelf.elements;
      size = shelf.size;
      at = 0;
      int statements = 0;
      do {
        if (!readStatement()) {
          return FAULT_OF_FORM - at;
        }
        statements++;
      } while (at < size && statements < ROW_SIZE);
      at = 0;
      for (int done = 0; done < statements; done++) {
        int start = at;
        if (!readStatement() || !doStatement(t)) {
          return FAULT_OF_DOING - start;
        }
      }
      return statements;
    }

    /** Stays at the byte that can't stand there. */
    private boolean readStatement() {
      letter = nextByte();
      switch (letter) {
        case 's':
          at++;
          first = readDigit();
          return first >= 0 && skip(';');
        case 'y':
          at++;
          return readTwoDigits() && readNumber() && skip(';');
        case 'p':
          at++;
          return readPerson() && skip(';');
        case 'w':
          at++;
          return readTwoDigits() && skip(' ') && readWish() && skip(';');
        case 'l':
          at++;
          return readTwoDigits() && readCrafts(0) && skip(';');
        case 'i':
          at++;
          return readTwoDigits() && skip(';');
        default:
          return false;
      }
    }

    private int nextByte() {
      return at < size && at < bytes.length ? bytes[at] : NO_BYTE;
    }

    private boolean skip(int due) {
      if (nextByte() != due) {
        return false;
      }
      at++;
      return true;
    }

    /** The digit's number, or NO_SUCH. */
    private int readDigit() {
      int digit = nextByte() - '0';
      if (digit < 0 || digit > 9) {
        return NO_SUCH;
      }
      at++;
      return digit;
    }

    private boolean readTwoDigits() {
      first = readDigit();
      if (first < 0) {
        return false;
      }
      second = readDigit();
      return second >= 0;
    }

    private boolean readNumber() {
      number = readDigit();
      return number >= 0;
    }

    private boolean readWish() {
      if (!readNumber()) {
        return false;
      }
      int tens = number;
      if (tens > 0 && readNumber()) {
        number += 10 * tens;
      } else {
        number = tens;
      }
      return true;
    }

    private boolean readPerson() {
      if (!readCrafts(1)) {
        return false;
      }
      int crafts = set;
      first = NO_SUCH;
      hidden = 0;
      if (skip('t')) {
        first = readDigit();
        if (first < 0) {
          return false;
        }
      }
      if (skip('x')) {
        if (!readCrafts(1)) {
          return false;
        }
        hidden = set;
      }
      set = crafts;
      return true;
    }

    private boolean readCrafts(int atLeast) {
      set = 0;
      for (int craft = 0; craft < CRAFTS; craft++) {
        if (skip('a' + craft)) {
          set |= 1 << craft;
        }
      }
      return Integer.bitCount(set) >= atLeast;
    }

    private boolean doStatement(Town t) {
      switch (letter) {
        case 's':
          return doStreet(t);
        case 'y':
          return doWay(t);
        case 'p':
          return doPerson(t);
        case 'w':
          return doWish(t);
        case 'l':
          return doLaw(t);
        default:
          return doLives(t);
      }
    }

    private boolean doStreet(Town t) {
      if (first < 1 || first > HOUSES || !t.hasRoomForStreet()) {
        return false;
      }
      t.addStreet(first);
      return true;
    }

    private boolean doWay(Town t) {
      if (!t.hasStreet(first) || !t.hasStreet(second) || first == second) {
        return false;
      }
      t.setMinutes(first, second, number);
      return true;
    }

    private boolean doPerson(Town t) {
      boolean hasNewTie = first != NO_SUCH && !t.hasPerson(first);
      if (!t.hasRoomForPerson() || hasNewTie || (hidden & ~set) != 0) {
        return false;
      }
      t.addPerson(set, first, hidden);
      return true;
    }

    private boolean doWish(Town t) {
      if (!t.hasPerson(first) || !t.hasStreet(second)) {
        return false;
      }
      t.setWish(first, second, number);
      return true;
    }

    private boolean doLaw(Town t) {
      if (!isEach(first) || !isNear(second)) {
        return false;
      }
      t.each = first;
      t.near = second;
      t.counting = set;
      return true;
    }

    private boolean doLives(Town t) {
      if (!t.hasPerson(first) || !t.hasStreet(second)) {
        return false;
      }
      t.homes[first] = second;
      return true;
    }
  }

  /** Looks for the lawful living of most people, or of the greatest wishes. */
  private static final class Placing {
    private final int[] homes = new int[PEOPLE];
    private final int[] chosen = new int[PEOPLE];
    private final int[] people = new int[STREETS];
    private final int[] ownLoads = new int[PEOPLE];
    private final int[] gains = new int[PEOPLE * STREETS];
    private final int[] hopes = new int[PEOPLE + 1];
    private int greatest = 0;

    private int largest(Town t) {
      Arrays.fill(gains, 1);
      return search(t);
    }

    private int dearest(Town t) {
      System.arraycopy(t.wishes, 0, gains, 0, PEOPLE * STREETS);
      return search(t);
    }

    private int search(Town t) {
      Arrays.fill(people, 0);
      Arrays.fill(t.loads, 0);
      hopes[t.people] = 0;
      for (int person = t.people - 1; person >= 0; person--) {
        ownLoads[person] = t.loadOf(person);
        hopes[person] = hopes[person + 1] + greatestGain(t, person);
      }
      greatest = -1;
      placeFrom(this, t, 0, 0);
      return greatest;
    }

    private int greatestGain(Town t, int person) {
      int gain = 0;
      for (int street = 0; street < t.streets; street++) {
        gain = Math.max(gain, gains[person * STREETS + street]);
      }
      return gain;
    }

    /** Tries the livings in their order, so only a greater one takes the place of one found before. */
    private static void placeFrom(Placing p, Town t, int person, int sum) {
      if (person > t.people || sum + p.hopes[person] <= p.greatest) {
        return;
      }
      if (person == t.people) {
        p.greatest = sum;
        System.arraycopy(p.homes, 0, p.chosen, 0, PEOPLE);
        return;
      }
      for (int street = 0; street < t.streets; street++) {
        if (p.fits(t, person, street)) {
          p.homes[person] = street;
          p.people[street]++;
          t.addLoad(street, p.ownLoads[person]);
          placeFrom(p, t, person + 1, sum + p.gains[person * STREETS + street]);
          t.addLoad(street, -p.ownLoads[person]);
          p.people[street]--;
        }
      }
      p.homes[person] = NOWHERE;
      placeFrom(p, t, person + 1, sum);
    }

    private boolean fits(Town t, int person, int street) {
      if (people[street] >= t.houses[street]) {
        return false;
      }
      int tie = t.ties[person];
      if (tie != NO_SUCH && homes[tie] != NOWHERE && homes[tie] != street) {
        return false;
      }
      for (int other = 0; other < t.streets; other++) {
        if (t.countTogether(street, other) && t.isTooMuch(t.loads[other] + ownLoads[person])) {
          return false;
        }
      }
      return true;
    }
  }

  /** What is only thought through: moves, chains of them, years, what one should learn. */
  private static final class Trials {
    private static final int LONGEST = 3;
    private static final int MOST_FOUND = 40;

    private final Town mind = new Town();
    private final Town then = new Town();
    private final Move tried = new Move();
    private final int[] worths = new int[PEOPLE];
    private final int[] steps = new int[LONGEST];
    private final int[] waited = new int[PEOPLE];
    private int gone = 0;

    /** In a town of its own, so that what may not be leaves no trace in the one that is. */
    private void attempt(Town now, Move move) {
      then.become(now);
      move.doIn(then);
    }

    private boolean isWanted(Town now, Move move) {
      attempt(now, move);
      return then.isWantedSince(now, move.kind != Move.TOLD);
    }

    private boolean mayBe(Town now, Move move) {
      attempt(now, move);
      return then.isLawful();
    }

    /** Whether it is wanted and may be; then is the town after it. */
    private boolean isOpen(Town now, Move move) {
      attempt(now, move);
      return then.isWantedSince(now, move.kind != Move.TOLD) && then.isLawful();
    }

    private boolean isOpenAs(Town now, int kind, int who, int other, int to) {
      tried.become(kind, who, other, to);
      attempt(now, tried);
      return then.isWantedSince(now, true) && then.isLawful();
    }

    private boolean anyOpen(Town now) {
      for (int who = 0; who < now.people; who++) {
        for (int to = 0; to < now.streets; to++) {
          if (isOpenAs(now, Move.ONE, who, who, to) || isOpenAs(now, Move.CHAIN, who, who, to)) {
            return true;
          }
        }
        for (int other = 0; other < who; other++) {
          if (isOpenAs(now, Move.SWAP, who, other, 0)) {
            return true;
          }
        }
      }
      return false;
    }

    /** The place of the first that can't be done; the size, if only half of one is left; NO_SUCH. */
    private int firstMisjudged(Town now, Shelf shelf) {
      mind.become(now);
      for (int i = 0; i + 1 < shelf.size; i += 2) {
        int who = shelf.elements[i];
        int to = shelf.elements[i + 1];
        if (!mind.hasPerson(who) || !mind.hasStreetOrNowhere(to)) {
          return i;
        }
        if (to != NOWHERE && !mind.wantsToGo(who, to)) {
          return i;
        }
        mind.homes[who] = to;
        if (!mind.isLawful()) {
          return i;
        }
      }
      return shelf.size % 2 == 1 ? shelf.size : NO_SUCH;
    }

    /** How many ones are done until none is open; mind holds the living then. */
    private int settle(Town now) {
      mind.become(now);
      int done = 0;
      while (done < MOST_FOUND && doFirstOpen()) {
        done++;
      }
      return done;
    }

    private boolean doFirstOpen() {
      for (int who = 0; who < mind.people; who++) {
        for (int to = 0; to < mind.streets; to++) {
          if (mind.wantsToGo(who, to) && mind.mayGo(who, to)) {
            mind.homes[who] = to;
            return true;
          }
        }
      }
      return false;
    }

    /** How many ones the shortest way has, each in steps; 0 if there is none. */
    private int findSteps(Town now) {
      for (int person = 0; person < now.people; person++) {
        worths[person] = now.worthNow(person);
      }
      for (int length = 1; length <= LONGEST; length++) {
        mind.become(now);
        if (goOn(this, 0, length, 0)) {
          return length;
        }
      }
      return 0;
    }

    private static boolean goOn(Trials t, int done, int length, int moved) {
      if (done >= length || done >= LONGEST) {
        return t.haveAllGained(done) && t.mind.isLawful();
      }
      for (int who = 0; who < t.mind.people; who++) {
        int home = t.mind.homes[who];
        for (int to = 0; ((moved >> who) & 1) == 0 && to < t.mind.streets; to++) {
          if (t.mind.wantsToGo(who, to)) {
            t.steps[done] = 10 * who + to;
            t.mind.homes[who] = to;
            if (goOn(t, done + 1, length, moved | 1 << who)) {
              return true;
            }
            t.mind.homes[who] = home;
          }
        }
      }
      return false;
    }

    private boolean haveAllGained(int length) {
      for (int i = 0; i < length; i++) {
        int who = steps[i] / 10;
        if (mind.worthNow(who) <= worths[who]) {
          return false;
        }
      }
      return true;
    }

    private int bestLesson(Town now, int person) {
      if (now.homes[person] == NOWHERE) {
        return NO_SUCH;
      }
      mind.become(now);
      int crafts = now.crafts[person];
      int found = NO_SUCH;
      int most = -1;
      for (int craft = 0; craft < CRAFTS; craft++) {
        mind.crafts[person] = crafts | 1 << craft;
        boolean isNew = mind.crafts[person] != crafts;
        if (isNew && mind.worthNow(person) > most && mind.lawHolds()) {
          found = craft;
          most = mind.worthNow(person);
        }
      }
      return found;
    }

    /** The years go by in mind; waited and gone tell of them. */
    private void liveOn(Town now, int years, int seed, int death) {
      mind.become(now);
      Arrays.fill(waited, 0);
      gone = 0;
      int z = seed;
      for (int year = 0; year < years; year++) {
        z = die(z, death);
        for (int person = 0; person < mind.people; person++) {
          if (mind.homes[person] == NOWHERE) {
            mind.homes[person] = mind.bestStreet(person);
          }
        }
        for (int person = 0; person < mind.people; person++) {
          waited[person] += oneIf(mind.homes[person] == NOWHERE);
        }
      }
    }

    /** One after the other may go to nowhere; the last draw is handed on. */
    private int die(int seed, int death) {
      int z = seed;
      for (int person = 0; person < mind.people; person++) {
        if (mind.homes[person] != NOWHERE) {
          z = z * 1103515245 + 12345;
          if ((z & 0x7FFFFFFF) / 65536 % 100 < death) {
            mind.homes[person] = NOWHERE;
            gone++;
          }
        }
      }
      return z;
    }
  }
}
