import java.math.BigInteger;
import java.util.Random;

/**
 * One call held against others, where the document tells the one by the others: a DAY in mind against
 * the day as it goes, GOINGS against a BOAT that is told, MEAN against DAYS, BEST and WHERE against
 * MEANS, LANTERN and PRICE against other RIVERS, JUDGED against who STANDS then. Seeds are fixed.
 */
public final class FerryBellsCross {

  static int wrong = 0;

  static void due(String what, long got, long want) {
    if (got != want && wrong++ < 20) {
      System.out.println(what + " answered " + got + ", due is " + want);
    }
  }

  // ---- rivers by seeds

  static final class Sort {
    int from;
    int to;
    int comes;
    int waits;
    int pays;
  }

  static final class River {
    final Random random;
    final int landings;
    final int seats;
    final Sort[] sorts;
    final StringBuilder ways = new StringBuilder();

    River(int seed) {
      random = new Random(seed);
      landings = 2 + random.nextInt(3);
      seats = 1 + random.nextInt(6);
      sorts = new Sort[1 + random.nextInt(4)];
      for (int a = 0; a < landings; a++) {
        for (int b = a + 1; b < landings; b++) {
          ways.append('m').append(a).append(b).append(' ').append(1 + random.nextInt(4)).append(';');
        }
      }
      for (int i = 0; i < sorts.length; i++) {
        Sort s = new Sort();
        s.from = random.nextInt(landings);
        s.to = (s.from + 1 + random.nextInt(landings - 1)) % landings;
        s.comes = random.nextInt(8) == 0 ? 0 : 1 + random.nextInt(100);
        s.waits = 1 + random.nextInt(20);
        s.pays = random.nextInt(100);
        sorts[i] = s;
      }
    }

    /** With WAITS so much more, and one SORT's PAYS so much more and WAITS so much less. */
    String text(int longer, int sort, int dearer) {
      StringBuilder b = new StringBuilder();
      for (int i = 0; i < sorts.length; i++) {
        Sort s = sorts[i];
        int waits = Math.min(20, s.waits + longer);
        int pays = s.pays;
        if (i == sort) {
          waits = Math.max(1, waits - dearer / 10);
          pays = Math.min(99, pays + dearer);
        }
        b.append('s').append(s.from).append(s.to).append(' ').append(s.comes).append(' ')
            .append(waits).append(' ').append(pays).append(';');
      }
      return b.toString();
    }

    FerryBells make(int longer, int sort, int dearer) {
      FerryBells x = new FerryBells();
      read(x, "n" + landings + ";b" + seats + ";");
      read(x, ways.toString());
      read(x, text(longer, sort, dearer));
      return x;
    }

    FerryBells make() {
      return make(0, -1, 0);
    }
  }

  static void read(FerryBells x, String text) {
    x.row(7, 0, text.length());
    for (int i = 0; i < text.length(); i++) {
      x.put(7, i, text.charAt(i));
    }
    due(text, x.river(7), text.chars().filter(c -> c == ';').count());
  }

  static void go(FerryBells x, int n) {
    for (int left = n; left > 0; left -= 60) {
      x.go(Math.min(60, left));
    }
  }

  // ---- the day as it goes

  /** A TOLD one with a FIGURE that is the LANDING's number lies there. */
  static void hold(FerryBells x) {
    int place = x.boat(0) >= 0 ? x.boat(0) : x.boat(1);
    x.keep(5, 1, 6, place);
    x.rule(5);
  }

  /** An object whose BOAT lies AT a LANDING, where nobody has come yet, in the MINUTE 360 at least. */
  static FerryBells lying(River river, int landing) {
    FerryBells x = river.make();
    for (int i = 0; i < river.sorts.length; i++) {
      x.comes(i, 0);
    }
    if (landing != 0) {
      x.tell(landing);
    }
    hold(x);
    go(x, 360);
    due("it lies", x.boat(0), landing);
    for (int i = 0; i < river.sorts.length; i++) {
      x.comes(i, river.sorts[i].comes);
    }
    return x;
  }

  /** 360 is a multiple of each FIGURE and 1 but for that of 6, so that a TURN goes on as from 0. */
  static void dayAgainstDay(int seed) {
    River river = new River(seed);
    Random random = river.random;
    int kind = random.nextInt(7);
    int figure = random.nextInt(10);
    int landing = random.nextInt(river.landings);
    if (figure == 6) {
      figure = 7;
    }
    int minutes = 1 + random.nextInt(120);
    int z = random.nextInt();
    FerryBells x = inItsDay(river);
    x.keep(0, 1, kind, figure);
    FerryBells y = lying(river, landing);
    y.set(1, z);
    y.keep(0, 1, kind, figure);
    y.rule(0);
    int[] before = {y.told(0), y.told(1), y.told(2), y.told(3)};
    go(y, minutes);
    for (int what = 0; what < 4; what++) {
      due("seed " + seed + ": day, what " + what, x.day(0, landing, minutes, z, what),
          y.told(what) - before[what]);
    }
    due("seed " + seed + ": mean of one", x.mean(0, landing, minutes, 1, z),
        x.day(0, landing, minutes, z, 2) - x.day(0, landing, minutes, z, 0));
  }

  /** Behind a MINUTE in which it was asked and lay, the BOAT goes as if it had been told then. */
  static void goingsAgainstTelling(int seed) {
    River river = new River(seed);
    Random random = river.random;
    int kind = random.nextInt(7);
    int figure = random.nextInt(10);
    int gone = random.nextInt(30);
    int minutes = 1 + random.nextInt(40);
    int told = random.nextInt(625);
    FerryBells x = gone(river, kind, figure, gone);
    FerryBells y = gone(river, kind, figure, gone);
    int before = y.told(2) - y.told(0);
    int digits = told;
    int asked = 0;
    for (int i = 0; i < minutes; i++) {
      if (asked < 4) {
        hold(y);
      }
      y.go(1);
      if (asked < 4 && y.boat(0) >= 0) {
        y.tell(digits % 5 - 1);
        digits /= 5;
        asked++;
        if (asked == 4) {
          y.rule(0);
        }
      }
    }
    due("seed " + seed + ": goings " + told + " in " + minutes, x.goings(told, minutes),
        y.told(2) - y.told(0) - before);
  }

  static FerryBells gone(River river, int kind, int figure, int minutes) {
    FerryBells x = river.make();
    x.keep(0, 1, kind, figure);
    x.rule(0);
    go(x, minutes);
    return x;
  }

  static FerryBells inItsDay(River river) {
    Random random = river.random;
    return gone(river, random.nextInt(7), random.nextInt(10), random.nextInt(30));
  }

  static void judgedAgainstStanding(int seed) {
    River river = new River(seed);
    Random random = river.random;
    int kind = random.nextInt(7);
    int figure = random.nextInt(10);
    int gone = random.nextInt(30);
    int landing = random.nextInt(river.landings);
    int size = random.nextInt(40);
    FerryBells x = gone(river, kind, figure, gone);
    FerryBells y = gone(river, kind, figure, gone);
    x.row(1, random.nextInt(3), size);
    for (int i = 0; i < size; i++) {
      y.go(1);
      x.put(1, i, y.stand(landing, -1, 0));
    }
    due("seed " + seed + ": judged", x.judge(landing, 1), -4);
    for (int i = size - 1; i >= 0; i -= 7) {
      x.put(1, i, (int) x.element(1, i) + 1);
      due("seed " + seed + ": judged wrong", x.judge(landing, 1), i);
    }
  }

  static void imageAgainstDay(int seed) {
    River river = new River(seed);
    Random random = river.random;
    int gone = random.nextInt(30);
    int minutes = 1 + random.nextInt(60);
    FerryBells x = gone(river, random.nextInt(7), random.nextInt(10), gone);
    x.image();
    go(x, minutes);
    String first = look(x);
    x.keep(0, 1, random.nextInt(7), random.nextInt(10));
    x.rule(0);
    read(x, "b6;");
    x.comes(0, random.nextInt(101));
    go(x, minutes);
    due("seed " + seed + ": restore", x.restore(), gone);
    go(x, minutes);
    String again = look(x);
    due("seed " + seed + ": " + first + " again " + again, first.equals(again) ? 1 : 0, 1);
  }

  static String look(FerryBells x) {
    StringBuilder b = new StringBuilder();
    for (int i = 0; i < 6; i++) {
      b.append(x.count(i)).append(' ').append(x.boat(i)).append(' ').append(x.told(i)).append(' ')
          .append(x.aboard(i)).append(' ');
    }
    for (int i = 0; i < 48; i++) {
      b.append(x.stand(i / 12, i % 12, 0)).append(' ').append(x.stand(i / 12, i % 12, 1)).append(' ');
    }
    return b.append(x.set(1, 0)).toString();
  }

  // ---- days in mind

  static void daysAgainstDays(int seed) {
    River river = new River(seed);
    Random random = river.random;
    FerryBells x = inItsDay(river);
    int kind = random.nextInt(7);
    int figure = random.nextInt(10);
    int minutes = 1 + random.nextInt(120);
    int n = 1 + random.nextInt(10);
    int z = random.nextInt(4) == 0 ? Integer.MAX_VALUE - 3 : random.nextInt();
    x.keep(0, 1, kind, figure);
    String seeds = "seed " + seed;
    int place = 0;
    for (int l = 0; l < river.landings; l++) {
      int sum = 0;
      for (int k = 0; k < n; k++) {
        sum += x.day(0, l, minutes, z + k, 2) - x.day(0, l, minutes, z + k, 0);
      }
      due(seeds + ": mean", x.mean(0, l, minutes, n, z), sum);
      place = sum > x.mean(0, place, minutes, n, z) ? l : place;
    }
    due(seeds + ": where", x.where(0, minutes, n, z), place);
    kindsAgainstMeans(x, random, seeds, figure, minutes, n, z);
    int landing = random.nextInt(river.landings);
    due(seeds + ": enough", x.enough(0, landing, minutes, z), enough(river, kind, figure, landing,
        minutes, z));
    int more = random.nextInt(21);
    due(seeds + ": lantern", x.lantern(0, landing, minutes, z, more),
        x.day(0, landing, minutes, z, 1)
            - with(river.make(more, -1, 0), kind, figure).day(0, landing, minutes, z, 1));
    int sort = random.nextInt(river.sorts.length);
    int dearer = random.nextInt(100);
    due(seeds + ": price", x.price(0, sort, minutes, z, dearer),
        with(river.make(0, sort, dearer), kind, figure).day(0, 0, minutes, z, 2)
            - x.day(0, 0, minutes, z, 2));
  }

  static FerryBells with(FerryBells x, int kind, int figure) {
    x.keep(0, 1, kind, figure);
    return x;
  }

  static void kindsAgainstMeans(FerryBells x, Random random, String seeds, int figure, int minutes,
      int n, int z) {
    int size = 1 + random.nextInt(7);
    x.row(1, 0, size);
    int place = 0;
    int most = 0;
    for (int i = 0; i < size; i++) {
      int kind = random.nextInt(7);
      x.put(1, i, kind);
      x.keep(2, 1, kind, figure);
      int mean = x.mean(2, 0, minutes, n, z);
      if (i == 0 || mean > most) {
        most = mean;
        place = i;
      }
    }
    due(seeds + ": best", x.best(1, figure, minutes, n, z), place);
  }

  static int enough(River river, int kind, int figure, int landing, int minutes, int z) {
    FerryBells y = with(river.make(), kind, figure);
    for (int seats = 1; seats <= 6; seats++) {
      y.set(0, seats);
      if (y.day(0, landing, minutes, z, 1) == 0) {
        return seats;
      }
    }
    return -4;
  }

  /** Where nobody comes a second BOAT, that isn't called, brings nobody. */
  static void sonWhoLies(int seed) {
    River river = new River(seed);
    Random random = river.random;
    FerryBells x = river.make();
    int other = random.nextInt(river.landings);
    int landing = (other + 1 + random.nextInt(river.landings - 1)) % river.landings;
    for (int i = 0; i < river.sorts.length; i++) {
      if (river.sorts[i].from == other) {
        x.comes(i, 0);
      }
    }
    x.keep(0, 1, 0, 3);
    int z = random.nextInt();
    due("seed " + seed + ": a son with nobody to bring", x.son(0, landing, other, 90, z), 0);
    x.keep(0, 1, 6, other);
    int way = x.minutes(landing, other);
    due("seed " + seed + ": a son who lies", x.son(0, landing, other, way, z), 0);
  }

  static void nobodyAgainstFractions(int seed) {
    River river = new River(seed);
    FerryBells x = river.make();
    for (int landing = 0; landing < river.landings; landing++) {
      for (int m = 0; m <= 4; m++) {
        BigInteger above = BigInteger.ONE;
        BigInteger below = BigInteger.ONE;
        int sorts = 0;
        for (Sort s : river.sorts) {
          if (s.from == landing) {
            sorts++;
            above = above.multiply(BigInteger.valueOf(100 - s.comes).pow(m));
            below = below.multiply(BigInteger.valueOf(100).pow(m));
          }
        }
        BigInteger divisor = above.gcd(below);
        boolean none = m * sorts > 8;
        due("seed " + seed + ": nobody, above", x.nobody(landing, m, 0),
            none ? -4000000000000000003L : above.divide(divisor).longValueExact());
        due("seed " + seed + ": nobody, below", x.nobody(landing, m, 1),
            none ? -4000000000000000003L : below.divide(divisor).longValueExact());
      }
    }
  }

  public static void main(String[] args) {
    int seeds = args.length > 0 ? Integer.parseInt(args[0]) : 300;
    for (int seed = 0; seed < seeds; seed++) {
      dayAgainstDay(seed);
      goingsAgainstTelling(seed);
      judgedAgainstStanding(seed);
      imageAgainstDay(seed);
      daysAgainstDays(seed);
      sonWhoLies(seed);
      nobodyAgainstFractions(seed);
    }
    System.out.println(wrong == 0 ? "calls agree with one another" : wrong + " answers are not as due");
    if (wrong != 0) {
      System.exit(1);
    }
  }
}
