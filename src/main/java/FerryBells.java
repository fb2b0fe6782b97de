/**
 * On which bank: a ferryman, landings with bells, and people of sorts who come by chances.
 * The words in capitals are those of the document.
 */
public final class FerryBells {

  private static final int NO_SUCH = -1;
  private static final int NO_ROOM = -2;
  private static final int NOT_NOW = -3;
  private static final int NO_ANSWER = -4;
  private static final int NOTHING_HELD = -11;
  private static final int OTHER_KIND = -12;
  private static final int NO_PLACE = -13;
  private static final int BAD_SIZE = -14;
  private static final int NO_FAILURE = -15;

  /** Refusals stand this far below 0 where a good answer may be below 0 itself. */
  private static final int BELOW = -1000000000;
  private static final long FAR_BELOW = -4000000000000000000L;

  private static final int LAST_MINUTE = 999;
  private static final int MOST_SPAN = 120;
  private static final int MOST_FIGURE = 9;
  private static final int KINDS = 7;
  private static final int MOST_SHELVES = 8;

  /** Four digits to the base 5 tell the GOINGS, so they stay below this. */
  private static final int GOINGS_END = 625;

  private final World real = new World(null);
  private final World picture = new World(null);
  private boolean pictured = false;

  /** Worlds in mind, one below the other: one for now and one behind each of four GOINGS. */
  private final World mind =
      new World(new World(new World(new World(new World(null)))));

  private final RiverText text = new RiverText();
  private final Shelf[] shelves = new Shelf[MOST_SHELVES];

  private int bestGain = 0;
  private int bestTold = 0;

  public FerryBells() {
    for (int d = 0; d < shelves.length; d++) {
      shelves[d] = new Shelf();
    }
  }

  // ---- rivers

  public int river(int d) {
    int refusal = refuseRow(d, Shelf.BYTES);
    Shelf shelf = shelfAt(d);
    if (refusal != 0 || shelf == null) {
      return refusal;
    }
    text.open(shelf.elements, shelf.size);
    int statements = text.countStatements();
    if (statements == 0) {
      return -1000 - text.place;
    }
    text.open(shelf.elements, shelf.size);
    mind.become(real);
    for (int i = 0; i < statements; i++) {
      if (!text.next() || !text.changes(mind)) {
        return -2000 - text.start;
      }
    }
    real.become(mind);
    return statements;
  }

  public int minutes(int a, int b) {
    if (!real.hasLanding(a) || !real.hasLanding(b) || a == b) {
      return NO_SUCH;
    }
    return real.way(a, b);
  }

  public int sort(int sort, int what) {
    if (!real.hasSort(sort) || what < World.FROM || what > World.PAYS) {
      return NO_SUCH;
    }
    return real.ofSort(sort, what);
  }

  public int comes(int sort, int n) {
    if (!real.hasSort(sort) || n < 0 || n > World.MOST_COMES) {
      return NO_SUCH;
    }
    int before = real.ofSort(sort, World.COMES);
    real.changeSort(sort, World.COMES, n);
    return before;
  }

  public int set(int what, int n) {
    if (what == 1) {
      int before = real.z;
      real.z = n;
      return before;
    }
    if (what != 0 || n < 1 || n > World.MOST_SEATS) {
      return NO_SUCH;
    }
    int before = real.seats;
    return real.takeSeats(n) ? before : NOT_NOW;
  }

  // ---- the day as it goes

  public int rule(int d) {
    Rule rule = ruleAt(d);
    if (rule == null) {
      return refuseRule(d);
    }
    real.first.rule = rule;
    return rule.kind();
  }

  public int go(int n) {
    if (n < 1 || n > 60) {
      return NO_SUCH;
    }
    if (real.minute + n > LAST_MINUTE) {
      return NO_ROOM;
    }
    real.pass(n);
    return real.minute;
  }

  public int tell(int landing) {
    if (!real.hasLanding(landing)) {
      return NO_SUCH;
    }
    if (real.first.left > 0 || real.first.place == landing) {
      return NOT_NOW;
    }
    real.send(real.first, landing);
    return real.first.left;
  }

  public int boat(int what) {
    Boat boat = real.first;
    boolean underWay = boat.left > 0;
    switch (what) {
      case 0: return underWay ? NO_ANSWER : boat.place;
      case 1: return underWay ? boat.place : NO_ANSWER;
      case 2: return boat.left;
      case 3: return boat.taken;
      case 4: return boat.rule.kind();
      default: return NO_SUCH;
    }
  }

  public int stand(int landing, int i, int what) {
    if (!real.hasLanding(landing) || i < -1 || what < 0 || what > 1) {
      return NO_SUCH;
    }
    int standing = real.standingAt(landing);
    if (i == -1) {
      return standing;
    }
    if (i >= standing) {
      return NO_ANSWER;
    }
    return what == 0 ? real.whoStands(landing, i) : real.sinceStands(landing, i);
  }

  public int aboard(int i) {
    if (i < 0) {
      return NO_SUCH;
    }
    return i < real.first.taken ? at(real.first.seated, i) : NO_ANSWER;
  }

  public int told(int what) {
    return real.figureOf(what);
  }

  // ---- days in mind

  public int day(int d, int landing, int minutes, int z, int what) {
    if (!real.hasLanding(landing) || isNoSpan(minutes) || what < 0 || what > 3) {
      return NO_SUCH;
    }
    Rule rule = ruleAt(d);
    if (rule == null) {
      return refuseRule(d);
    }
    begin(rule, landing, z);
    mind.pass(minutes);
    return mind.figureOf(what);
  }

  public int mean(int d, int landing, int minutes, int n, int z) {
    if (!real.hasLanding(landing) || isNoSpan(minutes) || isNoDays(n)) {
      return BELOW + NO_SUCH;
    }
    Rule rule = ruleAt(d);
    if (rule == null) {
      return BELOW + refuseRule(d);
    }
    return meanOf(rule, landing, minutes, n, z);
  }

  public int best(int d, int figure, int minutes, int n, int z) {
    if (figure < 0 || figure > MOST_FIGURE || isNoSpan(minutes) || isNoDays(n)) {
      return NO_SUCH;
    }
    int refusal = refuseRow(d, Shelf.BYTES);
    Shelf shelf = shelfAt(d);
    if (refusal != 0 || shelf == null) {
      return refusal;
    }
    if (!shelf.holdsKinds()) {
      return NO_PLACE;
    }
    int place = 0;
    int most = 0;
    for (int i = 0; i < shelf.size; i++) {
      int mean = meanOf(makeRule(shelf.read(i), figure), 0, minutes, n, z);
      if (i == 0 || mean > most) {
        most = mean;
        place = i;
      }
    }
    return place;
  }

  public int where(int d, int minutes, int n, int z) {
    if (isNoSpan(minutes) || isNoDays(n)) {
      return NO_SUCH;
    }
    Rule rule = ruleAt(d);
    if (rule == null) {
      return refuseRule(d);
    }
    int place = 0;
    int most = 0;
    for (int landing = 0; landing < real.landings; landing++) {
      int mean = meanOf(rule, landing, minutes, n, z);
      if (landing == 0 || mean > most) {
        most = mean;
        place = landing;
      }
    }
    return place;
  }

  public int enough(int d, int landing, int minutes, int z) {
    if (!real.hasLanding(landing) || isNoSpan(minutes)) {
      return NO_SUCH;
    }
    Rule rule = ruleAt(d);
    if (rule == null) {
      return refuseRule(d);
    }
    for (int seats = 1; seats <= World.MOST_SEATS; seats++) {
      begin(rule, landing, z);
      mind.seats = seats;
      mind.pass(minutes);
      if (mind.walked == 0) {
        return seats;
      }
    }
    return NO_ANSWER;
  }

  public int lantern(int d, int landing, int minutes, int z, int n) {
    if (!real.hasLanding(landing) || isNoSpan(minutes) || n < 0 || n > World.MOST_WAITS) {
      return BELOW + NO_SUCH;
    }
    Rule rule = ruleAt(d);
    if (rule == null) {
      return BELOW + refuseRule(d);
    }
    begin(rule, landing, z);
    mind.pass(minutes);
    int before = mind.walked;
    begin(rule, landing, z);
    for (int sort = 0; sort < mind.sorts; sort++) {
      int waits = mind.ofSort(sort, World.WAITS) + n;
      mind.changeSort(sort, World.WAITS, Math.min(waits, World.MOST_WAITS));
    }
    mind.pass(minutes);
    return before - mind.walked;
  }

  public int price(int d, int sort, int minutes, int z, int n) {
    if (!real.hasSort(sort) || isNoSpan(minutes) || n < 0 || n > World.MOST_PAYS) {
      return BELOW + NO_SUCH;
    }
    Rule rule = ruleAt(d);
    if (rule == null) {
      return BELOW + refuseRule(d);
    }
    begin(rule, 0, z);
    mind.pass(minutes);
    int before = mind.earned;
    begin(rule, 0, z);
    int pays = mind.ofSort(sort, World.PAYS) + n;
    mind.changeSort(sort, World.PAYS, Math.min(pays, World.MOST_PAYS));
    int waits = mind.ofSort(sort, World.WAITS) - n / 10;
    mind.changeSort(sort, World.WAITS, Math.max(waits, 1));
    mind.pass(minutes);
    return mind.earned - before;
  }

  public int son(int d, int landing, int other, int minutes, int z) {
    if (!real.hasLanding(landing) || !real.hasLanding(other) || landing == other
        || isNoSpan(minutes)) {
      return BELOW + NO_SUCH;
    }
    Rule rule = ruleAt(d);
    if (rule == null) {
      return BELOW + refuseRule(d);
    }
    begin(rule, landing, z);
    mind.pass(minutes);
    int before = mind.waited;
    begin(rule, landing, z);
    mind.twoBoats = true;
    mind.second.begin(rule, other);
    mind.pass(minutes);
    return before - mind.waited;
  }

  private static boolean isNoSpan(int minutes) {
    return minutes < 1 || minutes > MOST_SPAN;
  }

  private static boolean isNoDays(int n) {
    return n < 1 || n > 10;
  }

  private void begin(Rule rule, int landing, int z) {
    mind.beginDay(real, rule, landing, z);
  }

  private int meanOf(Rule rule, int landing, int minutes, int n, int z) {
    int sum = 0;
    for (int k = 0; k < n; k++) {
      begin(rule, landing, z + k);
      mind.pass(minutes);
      sum += mind.gain();
    }
    return sum;
  }

  // ---- from now on

  public int goings(int told, int minutes) {
    if (told < 0 || told >= GOINGS_END || isNoSpan(minutes)) {
      return BELOW + NO_SUCH;
    }
    mind.become(real);
    int digits = told;
    int unit = 1;
    for (int i = 0; i < minutes; i++) {
      mind.bring();
      if (mind.first.left == 0 && unit < GOINGS_END) {
        mind.send(mind.first, digits % 5 - 1);
        digits /= 5;
        unit *= 5;
      } else {
        mind.ask(mind.first);
      }
      mind.close();
    }
    return mind.gain() - real.gain();
  }

  public int bestGoings(int minutes) {
    if (isNoSpan(minutes)) {
      return NO_SUCH;
    }
    bestTold = -1;
    mind.become(real);
    explore(mind, 1, 0, minutes);
    return bestTold;
  }

  /** Goes on from a world in mind; unit is what the next digit of the GOINGS counts. */
  private void explore(World world, int unit, int told, int left) {
    for (int i = left; i > 0; i--) {
      world.bring();
      if (world.first.left == 0 && unit < GOINGS_END && world.below != null) {
        branch(world, world.below, unit, told, i);
        return;
      }
      world.ask(world.first);
      world.close();
    }
    weigh(world.gain(), told);
  }

  /** Digits that mean "none" as 0 does are left out: the one with 0 is less, and no worse. */
  private void branch(World world, World below, int unit, int told, int left) {
    for (int digit = 0; digit <= world.landings; digit++) {
      if (digit - 1 != world.first.place) {
        below.become(world);
        below.send(below.first, digit - 1);
        below.close();
        explore(below, unit * 5, told + digit * unit, left - 1);
      }
    }
  }

  private void weigh(int gain, int told) {
    if (bestTold < 0 || gain > bestGain || (gain == bestGain && told < bestTold)) {
      bestGain = gain;
      bestTold = told;
    }
  }

  public long nobody(int landing, int m, int part) {
    if (!real.hasLanding(landing) || m < 0 || m > 4 || part < 0 || part > 1) {
      return FAR_BELOW + NO_SUCH;
    }
    if (m * real.sortsFrom(landing) > 8) {
      return FAR_BELOW + NOT_NOW;
    }
    long above = 1;
    long below = 1;
    for (int sort = 0; sort < real.sorts; sort++) {
      if (real.ofSort(sort, World.FROM) == landing) {
        for (int k = 0; k < m; k++) {
          above *= 100 - real.ofSort(sort, World.COMES);
          below *= 100;
        }
      }
    }
    long divisor = commonDivisor(above, below);
    return (part == 0 ? above : below) / (divisor > 0 ? divisor : 1);
  }

  private static long commonDivisor(long a, long b) {
    long high = a;
    long low = b;
    for (int i = 0; i < 200 && low != 0; i++) {
      long rest = high % low;
      high = low;
      low = rest;
    }
    return high;
  }

  public int judge(int landing, int d) {
    if (!real.hasLanding(landing)) {
      return NO_SUCH;
    }
    int refusal = refuseRow(d, Shelf.ANY);
    Shelf shelf = shelfAt(d);
    if (refusal != 0 || shelf == null) {
      return refusal;
    }
    mind.become(real);
    for (int i = 0; i < shelf.size; i++) {
      mind.pass(1);
      int guess = shelf.read(i);
      if (guess != shelf.leastNumber() && guess != mind.standingAt(landing)) {
        return i;
      }
    }
    return NO_ANSWER;
  }

  // ---- the image, what is told

  public int image() {
    picture.become(real);
    pictured = true;
    return real.minute;
  }

  public int restore() {
    if (!pictured) {
      return NOT_NOW;
    }
    real.become(picture);
    return real.minute;
  }

  public int count(int what) {
    switch (what) {
      case 0: return real.landings;
      case 1: return real.sorts;
      case 2: return real.seats;
      case 3: return real.minute;
      case 4: return real.standingInAll();
      case 5: return real.comesInAll();
      default: return NO_SUCH;
    }
  }

  // ---- shelves

  public int keep(int d, int what, int k, int figure) {
    Shelf shelf = shelfAt(d);
    if (shelf == null || what < 0 || what > 1) {
      return NO_SUCH;
    }
    if (what == 1 && (k < 0 || k >= KINDS || figure < 0 || figure > MOST_FIGURE)) {
      return NO_SUCH;
    }
    shelf.clear();
    if (what == 1) {
      shelf.rule = makeRule(k, figure);
    }
    return 0;
  }

  public int row(int d, int sort, int n) {
    Shelf shelf = shelfAt(d);
    if (shelf == null || sort < Shelf.BYTES || sort > Shelf.INTS || n > Shelf.MOST_ELEMENTS) {
      return NO_SUCH;
    }
    if (n < 0) {
      return BAD_SIZE;
    }
    shelf.clear();
    shelf.makeRow(sort, n);
    return 0;
  }

  public int put(int d, int i, int v) {
    int refusal = refuseRow(d, Shelf.ANY);
    Shelf shelf = shelfAt(d);
    if (refusal != 0 || shelf == null) {
      return refusal;
    }
    return shelf.write(i, v) ? 0 : NO_PLACE;
  }

  public long element(int d, int i) throws IllegalArgumentException, IllegalStateException {
    Shelf shelf = shelfAt(d);
    if (shelf == null) {
      throw new IllegalArgumentException("no such shelf");
    }
    if (!shelf.hasRow() || i < 0 || i >= shelf.size) {
      throw new IllegalStateException("no row, or no such place");
    }
    return shelf.read(i);
  }

  public int copy(int d, int i, int e, int j, int n) {
    Shelf from = shelfAt(d);
    Shelf to = shelfAt(e);
    if (from == null || to == null) {
      return NO_SUCH;
    }
    if (from.isEmpty() || to.isEmpty()) {
      return NOTHING_HELD;
    }
    if (!from.hasRow() || from.sort != to.sort) {
      return OTHER_KIND;
    }
    if (!from.hasPlaces(i, n) || !to.hasPlaces(j, n)) {
      return NO_PLACE;
    }
    System.arraycopy(from.elements, i, to.elements, j, n);
    return n;
  }

  public int care(int d) {
    Rule rule = ruleAt(d);
    if (rule == null) {
      return BELOW + refuseRule(d);
    }
    return rule.cost();
  }

  public int toss(int d) {
    Rule rule = ruleAt(d);
    if (rule == null) {
      return refuseRule(d);
    }
    if (!rule.canFail()) {
      return NO_FAILURE;
    }
    try {
      rule.fail();
      return NO_FAILURE;
    } catch (UnsupportedOperationException failure) {
      return rule.figure + 100;
    } catch (IllegalArgumentException failure) {
      return rule.cost() + 200;
    } catch (IllegalStateException failure) {
      return rule.figure;
    }
  }

  private Shelf shelfAt(int d) {
    return d >= 0 && d < shelves.length ? shelves[d] : null;
  }

  private Rule ruleAt(int d) {
    Shelf shelf = shelfAt(d);
    return shelf == null ? null : shelf.rule;
  }

  /** Why SHELF d gives no RULE. */
  private int refuseRule(int d) {
    Shelf shelf = shelfAt(d);
    if (shelf == null) {
      return NO_SUCH;
    }
    return shelf.isEmpty() ? NOTHING_HELD : OTHER_KIND;
  }

  /** Why SHELF d gives no ROW of a SORT; 0 if it does. */
  private int refuseRow(int d, int sort) {
    Shelf shelf = shelfAt(d);
    if (shelf == null) {
      return NO_SUCH;
    }
    if (shelf.isEmpty()) {
      return NOTHING_HELD;
    }
    return shelf.hasRow() && (sort == Shelf.ANY || sort == shelf.sort) ? 0 : OTHER_KIND;
  }

  private static Rule makeRule(int kind, int figure) {
    switch (kind) {
      case 1: return new Turn(figure);
      case 2: return new Lie(figure);
      case 3: return new Busy(figure);
      case 4: return new Full(figure);
      case 5: return new Best(figure);
      case 6: return new Told(figure);
      default: return new Rule(figure);
    }
  }

  private static int at(int[] list, int i) {
    return i >= 0 && i < list.length ? list[i] : 0;
  }

  private static void change(int[] list, int i, int v) {
    if (i >= 0 && i < list.length) {
      list[i] = v;
    }
  }

  private static void copyAll(int[] from, int[] to) {
    System.arraycopy(from, 0, to, 0, Math.min(from.length, to.length));
  }

  /** A place that holds nothing, a RULE or a ROW; its elements are made once for all ROWS. */
  private static final class Shelf {
    static final int ANY = -1;
    static final int BYTES = 0;
    static final int SHORTS = 1;
    static final int INTS = 2;
    static final int MOST_ELEMENTS = 100;
    private static final int NO_ROW = -2;

    Rule rule = null;
    int sort = NO_ROW;
    int size = 0;
    final int[] elements = new int[MOST_ELEMENTS];

    void clear() {
      rule = null;
      sort = NO_ROW;
      size = 0;
    }

    void makeRow(int newSort, int newSize) {
      sort = newSort;
      size = newSize;
      for (int i = 0; i < elements.length; i++) {
        elements[i] = 0;
      }
    }

    boolean hasRow() {
      return sort != NO_ROW;
    }

    boolean isEmpty() {
      return rule == null && !hasRow();
    }

    int read(int i) {
      return at(elements, i);
    }

    boolean write(int i, int v) {
      if (i < 0 || i >= size) {
        return false;
      }
      change(elements, i, sort == BYTES ? (byte) v : sort == SHORTS ? (short) v : v);
      return true;
    }

    /** Written without a sum, which could wrap round. */
    boolean hasPlaces(int i, int n) {
      return n >= 0 && i >= 0 && i <= size && n <= size - i;
    }

    boolean holdsKinds() {
      for (int i = 0; i < size; i++) {
        if (read(i) < 0 || read(i) >= KINDS) {
          return false;
        }
      }
      return size >= 1 && size <= 7;
    }

    int leastNumber() {
      return sort == BYTES ? -128 : sort == SHORTS ? -32768 : -2147483648;
    }
  }

  /** AT place while left is 0; else UNDER WAY to it. */
  private static final class Boat {
    int place = 0;
    int left = 0;
    int taken = 0;
    final int[] seated = new int[World.MOST_SEATS];
    Rule rule = new Rule(0);

    void begin(Rule newRule, int landing) {
      place = landing;
      left = 0;
      taken = 0;
      rule = newRule;
    }

    void become(Boat other) {
      place = other.place;
      left = other.left;
      taken = other.taken;
      rule = other.rule;
      copyAll(other.seated, seated);
    }
  }

  /** All that there is but SHELVES and THE IMAGE, and how a MINUTE goes by in it. */
  private static final class World {
    static final int FROM = 0;
    static final int TO = 1;
    static final int COMES = 2;
    static final int WAITS = 3;
    static final int PAYS = 4;

    static final int MOST_LANDINGS = 4;
    static final int MOST_SORTS = 5;
    static final int MOST_SEATS = 6;
    static final int MOST_STANDING = 12;
    static final int MOST_MINUTES = 9;
    static final int MOST_COMES = 100;
    static final int MOST_WAITS = 20;
    static final int MOST_PAYS = 99;

    private static final int WHATS = 5;

    int landings = 3;
    final int[] ways = new int[MOST_LANDINGS * MOST_LANDINGS];
    int sorts = 0;
    final int[] sortRows = new int[MOST_SORTS * WHATS];
    int seats = 3;
    int z = 1;
    int minute = 0;
    final Boat first = new Boat();
    final Boat second = new Boat();
    boolean twoBoats = false;
    final int[] standing = new int[MOST_LANDINGS];
    final int[] who = new int[MOST_LANDINGS * MOST_STANDING];
    /** How many MINUTES are over when who STANDS there has WALKED, so that no MINUTE need count for all. */
    final int[] until = new int[MOST_LANDINGS * MOST_STANDING];
    int waited = 0;
    int walked = 0;
    int earned = 0;
    int carried = 0;
    final World below;

    World(World below) {
      this.below = below;
      for (int i = 0; i < ways.length; i++) {
        ways[i] = 3;
      }
    }

    void become(World other) {
      becomeRiver(other);
      z = other.z;
      minute = other.minute;
      first.become(other.first);
      second.become(other.second);
      twoBoats = other.twoBoats;
      copyAll(other.standing, standing);
      copyAll(other.who, who);
      copyAll(other.until, until);
      waited = other.waited;
      walked = other.walked;
      earned = other.earned;
      carried = other.carried;
    }

    private void becomeRiver(World other) {
      landings = other.landings;
      copyAll(other.ways, ways);
      sorts = other.sorts;
      copyAll(other.sortRows, sortRows);
      seats = other.seats;
    }

    /** A DAY's beginning on another world's river. */
    void beginDay(World other, Rule rule, int landing, int newZ) {
      becomeRiver(other);
      z = newZ;
      minute = 0;
      first.begin(rule, landing);
      twoBoats = false;
      for (int i = 0; i < standing.length; i++) {
        standing[i] = 0;
      }
      waited = 0;
      walked = 0;
      earned = 0;
      carried = 0;
    }

    // what it is asked

    boolean hasLanding(int landing) {
      return landing >= 0 && landing < landings;
    }

    boolean hasSort(int sort) {
      return sort >= 0 && sort < sorts;
    }

    int way(int a, int b) {
      return at(ways, a * MOST_LANDINGS + b);
    }

    int ofSort(int sort, int what) {
      int i = sort * WHATS + what;
      return i >= 0 && i < sortRows.length ? sortRows[i] : 0;
    }

    int sortsFrom(int landing) {
      int n = 0;
      for (int sort = 0; sort < sorts; sort++) {
        if (ofSort(sort, FROM) == landing) {
          n++;
        }
      }
      return n;
    }

    boolean canComeTo(int landing) {
      for (int sort = 0; sort < sorts; sort++) {
        if (ofSort(sort, FROM) == landing && ofSort(sort, COMES) > 0) {
          return true;
        }
      }
      return false;
    }

    int comesInAll() {
      int sum = 0;
      for (int sort = 0; sort < sorts; sort++) {
        sum += ofSort(sort, COMES);
      }
      return sum;
    }

    int standingAt(int landing) {
      return landing >= 0 && landing < standing.length ? standing[landing] : 0;
    }

    int standingInAll() {
      int sum = 0;
      for (int n : standing) {
        sum += n;
      }
      return sum;
    }

    int whoStands(int landing, int i) {
      return at(who, landing * MOST_STANDING + i);
    }

    int sinceStands(int landing, int i) {
      int index = landing * MOST_STANDING + i;
      return minute + ofSort(at(who, index), WAITS) - at(until, index);
    }

    int gain() {
      return earned - waited;
    }

    int figureOf(int what) {
      switch (what) {
        case 0: return waited;
        case 1: return walked;
        case 2: return earned;
        case 3: return carried;
        default: return NO_SUCH;
      }
    }

    // how its river is changed

    boolean takeLandings(int n) {
      if (n < 2 || n > MOST_LANDINGS || standingInAll() > 0 || first.taken > 0
          || first.place >= n) {
        return false;
      }
      for (int sort = 0; sort < sorts; sort++) {
        if (ofSort(sort, FROM) >= n || ofSort(sort, TO) >= n) {
          return false;
        }
      }
      landings = n;
      return true;
    }

    boolean takeWay(int a, int b, int n) {
      if (!hasLanding(a) || !hasLanding(b) || a == b || n < 1 || n > MOST_MINUTES) {
        return false;
      }
      change(ways, a * MOST_LANDINGS + b, n);
      change(ways, b * MOST_LANDINGS + a, n);
      return true;
    }

    boolean takeSort(int from, int to, int comes, int waits, int pays) {
      if (sorts >= MOST_SORTS || !hasLanding(from) || !hasLanding(to) || from == to) {
        return false;
      }
      if (comes < 0 || comes > MOST_COMES || waits < 1 || waits > MOST_WAITS
          || pays < 0 || pays > MOST_PAYS) {
        return false;
      }
      changeSort(sorts, FROM, from);
      changeSort(sorts, TO, to);
      changeSort(sorts, COMES, comes);
      changeSort(sorts, WAITS, waits);
      changeSort(sorts, PAYS, pays);
      sorts++;
      return true;
    }

    void changeSort(int sort, int what, int n) {
      change(sortRows, sort * WHATS + what, n);
    }

    boolean takeSeats(int n) {
      if (n < 1 || n > MOST_SEATS || n < first.taken) {
        return false;
      }
      seats = n;
      return true;
    }

    // how a MINUTE goes by

    void pass(int minutes) {
      for (int i = 0; i < minutes; i++) {
        bring();
        ask(first);
        if (twoBoats) {
          ask(second);
        }
        close();
      }
    }

    /** The steps 1, 2 and 3: all that goes ahead of the asking. */
    void bring() {
      for (int sort = 0; sort < sorts; sort++) {
        z = z * 1103515245 + 12345;
        if ((z & 0x7fffffff) / 65536 % 100 < ofSort(sort, COMES)) {
          come(sort, ofSort(sort, FROM));
        }
      }
      sail(first);
      if (twoBoats) {
        sail(second);
      }
      board(first);
      if (twoBoats) {
        board(second);
      }
    }

    private void come(int sort, int landing) {
      int n = standingAt(landing);
      if (n >= MOST_STANDING) {
        walked++;
        return;
      }
      change(who, landing * MOST_STANDING + n, sort);
      change(until, landing * MOST_STANDING + n, minute + ofSort(sort, WAITS));
      change(standing, landing, n + 1);
    }

    private void sail(Boat boat) {
      if (boat.left == 0) {
        return;
      }
      boat.left--;
      if (boat.left > 0) {
        return;
      }
      int staying = 0;
      for (int i = 0; i < boat.taken; i++) {
        int sort = at(boat.seated, i);
        if (ofSort(sort, TO) == boat.place) {
          earned += ofSort(sort, PAYS);
          carried++;
        } else {
          change(boat.seated, staying, sort);
          staying++;
        }
      }
      boat.taken = staying;
    }

    private void board(Boat boat) {
      int n = standingAt(boat.place);
      if (boat.left > 0 || n == 0) {
        return;
      }
      int start = boat.place * MOST_STANDING;
      int boarding = Math.max(0, Math.min(n, seats - boat.taken));
      for (int i = 0; i < boarding; i++) {
        change(boat.seated, boat.taken, at(who, start + i));
        boat.taken++;
      }
      for (int i = boarding; i < n; i++) {
        change(who, start + i - boarding, at(who, start + i));
        change(until, start + i - boarding, at(until, start + i));
      }
      change(standing, boat.place, n - boarding);
    }

    /** The step 4; a BOAT UNDER WAY is not asked. */
    void ask(Boat boat) {
      if (boat.left == 0) {
        send(boat, boat.rule.choose(this, boat));
      }
    }

    /** To a LANDING that is here, or isn't there, no BOAT goes. */
    void send(Boat boat, int landing) {
      if (hasLanding(landing) && landing != boat.place) {
        boat.left = way(boat.place, landing);
        boat.place = landing;
      }
    }

    /** The step 5. */
    void close() {
      for (int landing = 0; landing < standing.length; landing++) {
        if (standing[landing] > 0) {
          waitAt(landing, standing[landing]);
        }
      }
      minute++;
    }

    private void waitAt(int landing, int n) {
      int start = landing * MOST_STANDING;
      int staying = 0;
      for (int i = start; i < start + n; i++) {
        int end = at(until, i);
        if (end > minute + 1) {
          if (start + staying < i) {
            change(who, start + staying, at(who, i));
            change(until, start + staying, end);
          }
          staying++;
        }
      }
      waited += n;
      walked += n - staying;
      change(standing, landing, staying);
    }
  }

  /** Tells a BOAT that is AT a LANDING to which other one it goes; -1 for none. */
  private static class Rule {
    static final int NONE = -1;

    final int figure;

    Rule(int figure) {
      this.figure = figure;
    }

    int kind() {
      return 0;
    }

    int choose(World world, Boat boat) {
      return boat.taken > 0 ? world.ofSort(at(boat.seated, 0), World.TO) : NONE;
    }

    int cost() {
      return 5;
    }

    boolean canFail() {
      return figure != 0;
    }

    void fail() {
      throw new IllegalStateException("a rule's failure");
    }
  }

  private static class Turn extends Rule {
    Turn(int figure) {
      super(figure);
    }

    int kind() {
      return 1;
    }

    int choose(World world, Boat boat) {
      int beat = figure + 1;
      return beat > 0 && world.minute % beat == 0 ? heading(world, boat) : NONE;
    }

    int heading(World world, Boat boat) {
      return boat.place + 1 < world.landings ? boat.place + 1 : 0;
    }

    int cost() {
      return super.cost() + figure;
    }
  }

  private static class Lie extends Rule {
    Lie(int figure) {
      super(figure);
    }

    int kind() {
      return 2;
    }

    int choose(World world, Boat boat) {
      return boat.taken > 0 ? super.choose(world, boat) : calling(world, boat);
    }

    /** Whoever stands first at a LANDING has stood longest there. */
    int calling(World world, Boat boat) {
      int place = NONE;
      int longest = figure - 1;
      for (int landing = 0; landing < world.landings; landing++) {
        if (landing != boat.place && world.standingAt(landing) > 0
            && world.sinceStands(landing, 0) > longest) {
          longest = world.sinceStands(landing, 0);
          place = landing;
        }
      }
      return place;
    }

    int cost() {
      return 2 * super.cost();
    }
  }

  private static class Busy extends Lie {
    Busy(int figure) {
      super(figure);
    }

    int kind() {
      return 3;
    }

    int calling(World world, Boat boat) {
      int place = NONE;
      int most = figure;
      for (int landing = 0; landing < world.landings; landing++) {
        if (landing != boat.place && world.standingAt(landing) > most) {
          most = world.standingAt(landing);
          place = landing;
        }
      }
      return place;
    }

    int cost() {
      return super.cost() + 1;
    }

    void fail() {
      throw new UnsupportedOperationException("a busy one's failure");
    }
  }

  private static final class Full extends Rule {
    Full(int figure) {
      super(figure);
    }

    int kind() {
      return 4;
    }

    int choose(World world, Boat boat) {
      boolean goes = boat.taken > figure || boat.taken >= world.seats
          || !world.canComeTo(boat.place);
      return goes ? super.choose(world, boat) : NONE;
    }

    int cost() {
      return super.cost() - figure;
    }

    boolean canFail() {
      return false;
    }
  }

  private static final class Best extends Busy {
    Best(int figure) {
      super(figure);
    }

    int kind() {
      return 5;
    }

    int choose(World world, Boat boat) {
      if (boat.taken == 0) {
        return calling(world, boat);
      }
      int place = NONE;
      int most = 0;
      for (int landing = 0; landing < world.landings; landing++) {
        int bound = boundFor(world, boat, landing);
        if (bound > most) {
          most = bound;
          place = landing;
        }
      }
      return place;
    }

    private static int boundFor(World world, Boat boat, int landing) {
      int n = 0;
      for (int i = 0; i < boat.taken; i++) {
        if (world.ofSort(at(boat.seated, i), World.TO) == landing) {
          n++;
        }
      }
      return n;
    }

    int cost() {
      return super.cost() + figure;
    }
  }

  private static final class Told extends Turn {
    Told(int figure) {
      super(figure);
    }

    int kind() {
      return 6;
    }

    /** A BOAT that is AT this LANDING stays, as it does for every heading that is here. */
    int heading(World world, Boat boat) {
      return world.landings > 0 ? figure % world.landings : NONE;
    }

    int cost() {
      return super.cost() / 2;
    }

    void fail() {
      throw new IllegalArgumentException("a told one's failure");
    }
  }

  /** Reads the STATEMENTS of a RIVER's text one by one. */
  private static final class RiverText {
    private int[] bytes = null;
    private int size = 0;
    int place = 0;
    int start = 0;
    private int letter = 0;
    private final int[] values = new int[5];

    void open(int[] newBytes, int newSize) {
      bytes = newBytes;
      size = newSize;
      place = 0;
      start = 0;
    }

    /** 0 if there is a FAULT of kind 1, which stands at place then. */
    int countStatements() {
      int n = 0;
      for (int i = 0; i < size && place < size; i++) {
        if (!next()) {
          return 0;
        }
        n++;
      }
      return n;
    }

    /** Goes behind the next STATEMENT, or to the first byte that can't stand there. */
    boolean next() {
      start = place;
      letter = peek();
      switch (letter) {
        case 'n':
        case 'b':
          place++;
          return readDigit(0) && readSign(';');
        case 'm':
          place++;
          return readDigit(0) && readDigit(1) && readSign(' ') && readDigit(2) && readSign(';');
        case 's':
          place++;
          return readDigit(0) && readDigit(1) && readSign(' ') && readNumber(2)
              && readSign(' ') && readNumber(3) && readSign(' ') && readNumber(4)
              && readSign(';');
        default:
          return false;
      }
    }

    /** Does to a world what the STATEMENT that was read last tells; false if it can't be. */
    boolean changes(World world) {
      switch (letter) {
        case 'n': return world.takeLandings(values[0]);
        case 'b': return world.takeSeats(values[0]);
        case 'm': return world.takeWay(values[0], values[1], values[2]);
        case 's':
          return world.takeSort(values[0], values[1], values[2], values[3], values[4]);
        default: return false;
      }
    }

    private int peek() {
      return bytes != null && place >= 0 && place < size && place < bytes.length
          ? bytes[place] : -1;
    }

    private boolean atDigit() {
      return peek() >= '0' && peek() <= '9';
    }

    private boolean readSign(int sign) {
      if (peek() != sign) {
        return false;
      }
      place++;
      return true;
    }

    private boolean readDigit(int i) {
      if (!atDigit()) {
        return false;
      }
      change(values, i, peek() - '0');
      place++;
      return true;
    }

    /** Behind a 0 at the front no digit is read, so that the sign that is due is missed there. */
    private boolean readNumber(int i) {
      int n = 0;
      int digits = 0;
      while (digits < 3 && atDigit() && (digits == 0 || n > 0)) {
        n = n * 10 + peek() - '0';
        place++;
        digits++;
      }
      change(values, i, n);
      return digits > 0;
    }
  }
}
