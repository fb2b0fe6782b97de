import java.util.ArrayList;
import java.util.List;

/**
 * Each call with each of its arguments at the last number that is allowed and at the first that
 * isn't, on either side and far out; with two wrong ones at once, so that the order of refusals
 * shows; and behind each refused call all is as it was.
 */
public final class FerryBellsRefusals {

  static final int MIN = -2147483648;
  static final int MAX = 2147483647;
  static final long LESS = -1000000000;
  static final long FAR = -4000000000000000000L;

  static final int NOTHING = 0;
  static final int RULE = 1;
  static final int BYTES = 2;
  static final int SHORTS = 3;
  static final int INTS = 4;
  static final int RIVER = 5;
  static final int FULL = 6;
  static final int KINDS = 7;

  static int wrong = 0;

  static void due(String what, long got, long want) {
    if (got != want) {
      wrong++;
      System.out.println(what + " answered " + got + ", due is " + want);
    }
  }

  // ---- an object in the middle of its day, and all that can be seen of it

  static void write(FerryBells x, int d, int sort, int... values) {
    due("row", x.row(d, sort, values.length), 0);
    for (int i = 0; i < values.length; i++) {
      due("put", x.put(d, i, values[i]), 0);
    }
  }

  static final String TEXT = "n3;m01 2;m12 4;s01 60 9 5;s02 70 5 3;s12 40 20 7;s20 50 1 9;b4;";

  /** People STAND and are ABOARD, and an IMAGE was taken earlier. */
  static FerryBells inTheDay(boolean underWay) {
    FerryBells x = new FerryBells();
    write(x, RIVER, 0, TEXT.chars().toArray());
    due("river", x.river(RIVER), 8);
    x.keep(RULE, 1, 1, 5);
    x.rule(RULE);
    x.go(3);
    x.image();
    x.go(underWay ? 5 : 1);
    due("at a landing", x.boat(0) == -4 ? 1 : 0, underWay ? 1 : 0);
    due("some stand", x.count(4) > 0 ? 1 : 0, 1);
    due("some are aboard", x.boat(3) > 1 ? 1 : 0, 1);
    write(x, BYTES, 0, 1, -2, 3);
    write(x, SHORTS, 1, 400, -500, 600);
    write(x, INTS, 2, 70000, -80000, 90000);
    write(x, RIVER, 0, "b4;".chars().toArray());
    x.keep(FULL, 1, 4, 9);
    write(x, KINDS, 0, 0, 6);
    return x;
  }

  static void lookAtDay(FerryBells x, StringBuilder b) {
    for (int i = 0; i < 6; i++) {
      b.append(x.count(i)).append(',').append(x.boat(i)).append(',').append(x.told(i)).append(',')
          .append(x.aboard(i)).append(' ');
    }
    for (int l = 0; l < 3; l++) {
      for (int i = -1; i < 4; i++) {
        b.append(x.stand(l, i, 0)).append(',').append(x.stand(l, i, 1)).append(' ');
      }
    }
    int z = x.set(1, 0);
    x.set(1, z);
    b.append("z ").append(z).append('\n');
  }

  static String lookAt(FerryBells x) {
    StringBuilder b = new StringBuilder();
    lookAtDay(x, b);
    for (int i = 0; i < 5; i++) {
      for (int k = 0; k < 5; k++) {
        b.append(x.sort(i, k)).append(k < 4 ? "," : " ");
      }
    }
    for (int i = 0; i < 12; i++) {
      b.append(x.minutes(i / 4, i % 4)).append(' ');
    }
    for (int d = 0; d < 8; d++) {
      b.append("\nshelf ").append(d).append(": ").append(x.care(d)).append(' ').append(x.toss(d));
      for (int i = 0; i < 4; i++) {
        b.append(' ').append(element(x, d, i));
      }
      x.put(d, 0, 70000);
      b.append(' ').append(element(x, d, 0));
    }
    x.go(9);
    lookAtDay(x, b.append('\n'));
    x.restore();
    lookAtDay(x, b.append('\n'));
    return b.toString();
  }

  static long element(FerryBells x, int d, int i) {
    try {
      return x.element(d, i);
    } catch (IllegalArgumentException e) {
      return LESS - 1;
    } catch (IllegalStateException e) {
      return LESS - 2;
    }
  }

  // ---- a call, its arguments, and how it is held against what is told

  /** One number for an argument, and how it is refused (0: it isn't). */
  static final class Value {
    final int number;
    final int refusal;

    Value(int number, int refusal) {
      this.number = number;
      this.refusal = refusal;
    }
  }

  static Value[] good(int... numbers) {
    return no(0, numbers);
  }

  static Value[] no(int refusal, int... numbers) {
    Value[] values = new Value[numbers.length];
    for (int i = 0; i < numbers.length; i++) {
      values[i] = new Value(numbers[i], refusal);
    }
    return values;
  }

  /** The good ones are told first. */
  static Value[] arg(Value[]... parts) {
    List<Value> all = new ArrayList<>();
    for (Value[] part : parts) {
      all.addAll(List.of(part));
    }
    return all.toArray(new Value[0]);
  }

  static Value[] from(int low, int high) {
    return arg(good(low, high), no(-1, low - 1, high + 1, MIN, MAX));
  }

  static Value[] aRule() {
    return arg(good(RULE), no(-1, -1, 8, MIN, MAX), no(-11, NOTHING), no(-12, BYTES, SHORTS, INTS));
  }

  static Value[] aRow() {
    return arg(good(BYTES, SHORTS, INTS), no(-1, -1, 8, MIN, MAX), no(-11, NOTHING), no(-12, RULE));
  }

  interface Call {
    long answer(FerryBells x, int[] a);
  }

  static final String[] BEFORE = new String[2];

  static void once(String name, Call call, long less, Value[] chosen) {
    int[] a = new int[chosen.length];
    int refusal = 0;
    StringBuilder words = new StringBuilder(name);
    for (int i = 0; i < a.length; i++) {
      a[i] = chosen[i].number;
      words.append(i == 0 ? "(" : ", ").append(a[i]);
      if (chosen[i].refusal != 0 && (refusal == 0 || chosen[i].refusal > refusal)) {
        refusal = chosen[i].refusal;
      }
    }
    for (int k = 0; k < 2; k++) {
      FerryBells x = inTheDay(k == 0);
      long got = call.answer(x, a);
      if (refusal == 0) {
        boolean answered = less == 0 ? got >= 0 || got == -4 : got > less + less / -2;
        due(words + ") is good, " + got + "; answered", answered ? 1 : 0, 1);
      } else {
        due(words + ")", got, less + refusal);
        String behind = lookAt(x);
        if (!behind.equals(BEFORE[k])) {
          wrong++;
          System.out.println(words + ") was refused and changed\n" + BEFORE[k] + "to\n" + behind);
        }
      }
    }
  }

  /** All arguments good; one of each number; two of each two numbers that are wrong. */
  static void holds(String name, Call call, long less, Value[]... args) {
    Value[] chosen = new Value[args.length];
    for (int i = 0; i < args.length; i++) {
      chosen[i] = args[i][0];
    }
    once(name, call, less, chosen);
    for (int i = 0; i < args.length; i++) {
      for (Value v : args[i]) {
        chosen[i] = v;
        once(name, call, less, chosen);
        for (int k = i + 1; k < args.length && v.refusal != 0; k++) {
          for (Value w : args[k]) {
            if (w.refusal != 0) {
              chosen[k] = w;
              once(name, call, less, chosen);
            }
          }
          chosen[k] = args[k][0];
        }
      }
      chosen[i] = args[i][0];
    }
  }

  // ---- rivers

  static void rivers() {
    holds("river", (x, a) -> x.river(a[0]), 0, arg(good(RIVER), no(-1, -1, 8, MIN, MAX),
        no(-11, NOTHING), no(-12, RULE, SHORTS, INTS, FULL)));
    holds("minutes", (x, a) -> x.minutes(a[0], a[1]), 0, arg(good(0), no(-1, -1, 3, MIN, MAX)),
        arg(good(1, 2), no(-1, 0, -1, 3, MIN, MAX)));
    holds("minutes", (x, a) -> x.minutes(a[1], a[0]), 0, arg(good(0), no(-1, -1, 3, MIN, MAX)),
        arg(good(1, 2), no(-1, 0, -1, 3, MIN, MAX)));
    holds("sort", (x, a) -> x.sort(a[0], a[1]), 0, from(0, 3), from(0, 4));
    holds("comes", (x, a) -> x.comes(a[0], a[1]), 0, from(0, 3), from(0, 100));
    holds("set SEATS", (x, a) -> x.set(0, a[0]), 0, arg(good(4, 6),
        no(-1, 0, -1, 7, MIN, MAX), no(-3, 1, 2, 3)));
    holds("set", (x, a) -> x.set(a[0], a[1]), 0, no(-1, -1, 2, MIN, MAX), good(1, 4, 7, 0));
  }

  // ---- the day as it goes

  static void theDay() {
    holds("rule", (x, a) -> x.rule(a[0]), 0, aRule());
    holds("go", (x, a) -> x.go(a[0]), 0, from(1, 60));
    holds("boat", (x, a) -> x.boat(a[0]), 0, from(0, 4));
    holds("stand", (x, a) -> x.stand(a[0], a[1], a[2]), 0, from(0, 2),
        arg(good(-1, 0, 11, 12, MAX), no(-1, -2, MIN)), from(0, 1));
    holds("aboard", (x, a) -> x.aboard(a[0]), 0, arg(good(0, 5, 6, MAX), no(-1, -1, MIN)));
    holds("told", (x, a) -> x.told(a[0]), 0, from(0, 3));
    tells();
    goesBeyond();
  }

  /** -1 goes ahead of -3. */
  static void tells() {
    FerryBells x = inTheDay(false);
    int here = x.boat(0);
    for (int landing : new int[] {MIN, -1, 0, 1, 2, 3, MAX}) {
      Value[] one = no(landing < 0 || landing > 2 ? -1 : -3, landing);
      x = inTheDay(true);
      due("tell " + landing + " while UNDER WAY", x.tell(landing), one[0].refusal);
      same("tell " + landing + " while UNDER WAY", x, 0);
      if (landing < 0 || landing > 2 || landing == here) {
        x = inTheDay(false);
        due("tell " + landing + " while AT " + here, x.tell(landing), one[0].refusal);
        same("tell " + landing + " while AT " + here, x, 1);
      } else {
        x = inTheDay(false);
        due("tell " + landing, x.tell(landing), x.minutes(here, landing));
      }
    }
  }

  static void same(String what, FerryBells x, int k) {
    due(what + " changed nothing", lookAt(x).equals(BEFORE[k]) ? 1 : 0, 1);
  }

  /** -1 goes ahead of -2. */
  static void goesBeyond() {
    int[][] rows = {{999, 1, -2}, {999, 60, -2}, {999, 0, -1}, {999, 61, -1}, {999, -1, -1},
        {999, MAX, -1}, {999, MIN, -1}, {998, 2, -2}, {998, 1, 999}, {939, 60, 999}, {940, 60, -2},
        {940, 59, 999}, {940, 61, -1}};
    for (int[] row : rows) {
      FerryBells x = at(row[0]);
      due("go " + row[1] + " at " + row[0], x.go(row[1]), row[2]);
      if (row[2] < 0) {
        due("go " + row[1] + " at " + row[0] + " changed nothing",
            lookAt(x).equals(lookAt(at(row[0]))) ? 1 : 0, 1);
      }
    }
  }

  static FerryBells at(int minute) {
    FerryBells x = inTheDay(true);
    while (x.count(3) < minute) {
      x.go(Math.min(60, minute - x.count(3)));
    }
    return x;
  }

  // ---- days in mind

  static final Value[] Z = good(1, 0, -1, MIN, MAX);

  static void daysInMind() {
    Value[] landing = from(0, 2);
    Value[] minutes = from(1, 120);
    Value[] days = from(1, 10);
    holds("day", (x, a) -> x.day(a[0], a[1], a[2], a[3], a[4]), 0,
        aRule(), landing, minutes, Z, from(0, 3));
    holds("mean", (x, a) -> x.mean(a[0], a[1], a[2], a[3], a[4]), LESS,
        aRule(), landing, minutes, days, Z);
    holds("where", (x, a) -> x.where(a[0], a[1], a[2], a[3]), 0, aRule(), minutes, days, Z);
    holds("enough", (x, a) -> x.enough(a[0], a[1], a[2], a[3]), 0, aRule(), landing, minutes, Z);
    holds("lantern", (x, a) -> x.lantern(a[0], a[1], a[2], a[3], a[4]), LESS,
        aRule(), landing, minutes, Z, from(0, 20));
    holds("price", (x, a) -> x.price(a[0], a[1], a[2], a[3], a[4]), LESS,
        aRule(), from(0, 3), minutes, Z, from(0, 99));
    holds("son", (x, a) -> x.son(a[0], a[1], a[2], a[3], a[4]), LESS, aRule(),
        arg(good(0), no(-1, 1, -1, 3, MIN, MAX)), arg(good(1), no(-1, -1, 3, MIN, MAX)), minutes, Z);
    holds("son", (x, a) -> x.son(a[0], a[1], a[2], a[3], a[4]), LESS, aRule(),
        arg(good(2), no(-1, -1, 3, MIN, MAX)), arg(good(0, 1), no(-1, 2, -1, 3, MIN, MAX)),
        minutes, Z);
    bests(minutes, days);
  }

  static void bests(Value[] minutes, Value[] days) {
    Value[] figure = from(0, 9);
    Call best = (x, a) -> x.best(a[0], a[1], a[2], a[3], a[4]);
    holds("best", best, 0, arg(good(KINDS), no(-1, -1, 8, MIN, MAX), no(-11, NOTHING),
        no(-12, RULE, FULL, SHORTS, INTS), no(-13, BYTES)), figure, minutes, days, Z);
    int[][] rows = {{}, {0}, {6}, {7}, {-1}, {127}, {-128}, {0, 1, 2, 3, 4, 5, 6},
        {6, 5, 4, 3, 2, 1, 0}, {0, 0, 0, 0, 0, 0, 0}, {0, 0, 0, 0, 0, 0, 0, 0},
        {0, 1, 2, 3, 4, 5, 7}, {7, 0}, {0, -1}};
    for (int[] row : rows) {
      FerryBells x = inTheDay(true);
      write(x, KINDS, 0, row);
      boolean kinds = row.length >= 1 && row.length <= 7;
      for (int kind : row) {
        kinds &= kind >= 0 && kind <= 6;
      }
      String what = "best of " + java.util.Arrays.toString(row);
      int got = x.best(KINDS, 2, 9, 2, 1);
      due(what + ": " + got + " is a place", got >= 0 && got < row.length ? 1 : 0, kinds ? 1 : 0);
      if (!kinds) {
        due(what, got, -13);
        due(what + ", -1 first", x.best(KINDS, 10, 9, 2, 1), -1);
        FerryBells y = inTheDay(true);
        write(y, KINDS, 0, row);
        due(what + " changed nothing", lookAt(x).equals(lookAt(y)) ? 1 : 0, 1);
      }
    }
  }

  // ---- from now on, the image, what is told

  static void fromNowOn() {
    Value[] minutes = from(1, 120);
    holds("goings", (x, a) -> x.goings(a[0], a[1]), LESS, from(0, 624), minutes);
    holds("bestGoings", (x, a) -> x.bestGoings(a[0]), 0, minutes);
    holds("nobody", (x, a) -> x.nobody(a[0], a[1], a[2]), FAR, from(0, 2), from(0, 4), from(0, 1));
    holds("judge", (x, a) -> x.judge(a[0], a[1]), 0, from(0, 2), aRow());
    holds("count", (x, a) -> x.count(a[0]), 0, from(0, 5));
    nobodies();
    FerryBells x = new FerryBells();
    for (int i = 0; i < 2; i++) {
      due("restore with no IMAGE", x.restore(), -3);
    }
    due("restore with no IMAGE changed nothing", lookAt(x).equals(lookAt(new FerryBells())) ? 1 : 0, 1);
  }

  /** -1 goes ahead of -3; from 1 come four SORTS, from 0 one. */
  static FerryBells fiveSorts() {
    FerryBells x = new FerryBells();
    write(x, 0, 0, "s10 1 2 3;s12 5 9 1;s10 99 4 0;s12 40 3 3;s01 20 2 2;".chars().toArray());
    due("five sorts", x.river(0), 5);
    return x;
  }

  static void nobodies() {
    for (int m = 0; m < 5; m++) {
      for (int part = 0; part < 2; part++) {
        FerryBells x = fiveSorts();
        long got = x.nobody(1, m, part);
        due("nobody in " + m + " of four SORTS", got == FAR - 3 ? 1 : got > 0 ? 0 : 2, m > 2 ? 1 : 0);
        due("nobody changed nothing", lookAt(x).equals(lookAt(fiveSorts())) ? 1 : 0, 1);
      }
      due("nobody, no part -1", fiveSorts().nobody(1, m, -1), FAR - 1);
      due("nobody, no part 2", fiveSorts().nobody(1, m, 2), FAR - 1);
    }
    due("nobody in -1", fiveSorts().nobody(1, -1, 0), FAR - 1);
    due("nobody in 5", fiveSorts().nobody(1, 5, 0), FAR - 1);
    due("nobody in the least", fiveSorts().nobody(1, MIN, 0), FAR - 1);
    due("nobody in 1073741824", fiveSorts().nobody(1, 1073741824, 0), FAR - 1);
  }

  // ---- shelves

  static void shelves() {
    Value[] shelf = arg(good(0, 1, 2, 7), no(-1, -1, 8, MIN, MAX));
    holds("keep nothing", (x, a) -> x.keep(a[0], 0, a[1], a[2]), 0, shelf,
        good(0, 6, -1, 7, MIN, MAX), good(0, 9, -1, 10, MIN, MAX));
    holds("keep a RULE", (x, a) -> x.keep(a[0], 1, a[1], a[2]), 0, shelf, from(0, 6), from(0, 9));
    holds("keep", (x, a) -> x.keep(a[0], a[1], a[2], a[3]), 0, shelf,
        arg(good(1), no(-1, -1, 2, MIN, MAX)), from(0, 6), from(0, 9));
    holds("row", (x, a) -> x.row(a[0], a[1], a[2]), 0, shelf, from(0, 2),
        arg(good(0, 100), no(-1, 101, MAX), no(-14, -1, -101, MIN)));
    Value[] place = arg(good(0, 2), no(-13, -1, 3, 99, 100, MIN, MAX));
    holds("put", (x, a) -> x.put(a[0], a[1], a[2]), 0, aRow(), place, good(0, MIN, MAX));
    copies();
    holds("care", (x, a) -> x.care(a[0]), LESS, aRule());
    holds("toss", (x, a) -> x.toss(a[0]), 0, arg(good(RULE), no(-1, -1, 8, MIN, MAX),
        no(-11, NOTHING), no(-12, BYTES, SHORTS, INTS), no(-15, FULL)));
    elements();
  }

  static void copies() {
    Call copy = (x, a) -> x.copy(a[0], a[2], a[1], a[3], a[4]);
    Value[] places = arg(good(0, 2), no(-13, -1, 3, MIN, MAX));
    Value[] many = arg(good(1, 0), no(-13, -1, 4, MIN, MAX));
    Value[] rows = arg(good(BYTES), no(-1, -1, 8, MIN, MAX), no(-11, NOTHING), no(-12, RULE, FULL));
    holds("copy d, e, i, j, n", copy, 0, rows, rows, places, places, many);
    int[] sorts = {BYTES, SHORTS, INTS};
    for (int d : sorts) {
      for (int e : sorts) {
        holds("copy d, e, i, j, n", copy, 0, no(d == e ? 0 : -12, d), no(0, e), places, places, many);
      }
    }
  }

  static void elements() {
    for (int d : new int[] {MIN, -1, 0, 1, 2, 3, 4, 5, 6, 7, 8, MAX}) {
      for (int i : new int[] {MIN, -1, 0, 1, 2, 3, 99, 100, MAX}) {
        FerryBells x = inTheDay(true);
        boolean there = i >= 0 && i < (d == KINDS ? 2 : 3)
            && (d == BYTES || d == SHORTS || d == INTS || d == RIVER || d == KINDS);
        long got = element(x, d, i);
        if (d < 0 || d > 7) {
          due("element " + d + ", " + i + ": IllegalArgumentException", got, LESS - 1);
        } else if (there) {
          due("element " + d + ", " + i + " is there", got > LESS ? 1 : 0, 1);
        } else {
          due("element " + d + ", " + i + ": IllegalStateException", got, LESS - 2);
        }
        same("element " + d + ", " + i, x, 0);
      }
    }
  }

  public static void main(String[] args) {
    BEFORE[0] = lookAt(inTheDay(true));
    BEFORE[1] = lookAt(inTheDay(false));
    rivers();
    theDay();
    daysInMind();
    fromNowOn();
    shelves();
    System.out.println(wrong == 0 ? "all refusals are as told" : wrong + " answers are not as due");
    if (wrong != 0) {
      System.exit(1);
    }
  }
}
