import java.util.Arrays;

/**
 * The boundary cases of the document, a test of its own for each sentence that names one: the words
 * in edge() are the document's. Arithmetic in the dues is by hand: with COMES 100 one comes each
 * MINUTE, with COMES 0 nobody does. How calls are refused is held in FerryBellsRefusals.
 */
public final class FerryBellsEdges {

  static final int MIN = -2147483648;
  static final int MAX = 2147483647;
  static final int LESS = -1000000000;
  static final long FAR = -4000000000000000000L;

  /** All ways of one MINUTE each. */
  static final String NEAR = "m01 1;m02 1;m12 1;";

  static int wrong = 0;
  static int edges = 0;
  static String sentence = "";

  static void edge(String words, Runnable test) {
    sentence = words;
    edges++;
    try {
      test.run();
    } catch (RuntimeException e) {
      wrong++;
      System.out.println(words + "\n    threw " + e);
    }
  }

  static void due(String what, long got, long want) {
    if (got != want) {
      wrong++;
      System.out.println(sentence + "\n    " + what + " answered " + got + ", due is " + want);
    }
  }

  // ---- objects to try it on

  static void write(FerryBells x, int d, int sort, int... values) {
    due("row", x.row(d, sort, values.length), 0);
    for (int i = 0; i < values.length; i++) {
      due("put", x.put(d, i, values[i]), 0);
    }
  }

  static int read(FerryBells x, String text) {
    write(x, 7, 0, text.chars().toArray());
    return x.river(7);
  }

  static int read(String text) {
    return read(new FerryBells(), text);
  }

  static FerryBells with(String text) {
    FerryBells x = new FerryBells();
    due(text, read(x, text), (int) text.chars().filter(c -> c == ';').count());
    return x;
  }

  /** The SHELF 6 keeps the BOAT's RULE. */
  static FerryBells ruled(String text, int kind, int figure) {
    FerryBells x = with(text);
    rule(x, kind, figure);
    return x;
  }

  static void rule(FerryBells x, int kind, int figure) {
    due("keep", x.keep(6, 1, kind, figure), 0);
    due("rule", x.rule(6), kind);
  }

  static void go(FerryBells x, int n) {
    for (int left = n; left > 0; left -= 60) {
      x.go(Math.min(60, left));
    }
  }

  static void told(FerryBells x, int waited, int walked, int earned, int carried) {
    due("WAITED", x.told(0), waited);
    due("WALKED", x.told(1), walked);
    due("EARNED", x.told(2), earned);
    due("CARRIED", x.told(3), carried);
  }

  static void stand(FerryBells x, int landing, int... sorts) {
    due("how many STAND at " + landing, x.stand(landing, -1, 0), sorts.length);
    for (int i = 0; i < sorts.length; i++) {
      due("who STANDS at " + landing + ", " + i, x.stand(landing, i, 0), sorts[i]);
    }
    due("behind them at " + landing, x.stand(landing, sorts.length, 0), -4);
  }

  static void since(FerryBells x, int landing, int... minutes) {
    for (int i = 0; i < minutes.length; i++) {
      due("since how long at " + landing + ", " + i, x.stand(landing, i, 1), minutes[i]);
    }
  }

  static void aboard(FerryBells x, int... sorts) {
    due("how many are ABOARD", x.boat(3), sorts.length);
    for (int i = 0; i < sorts.length; i++) {
      due("who is ABOARD, " + i, x.aboard(i), sorts[i]);
    }
    due("behind them ABOARD", x.aboard(sorts.length), -4);
  }

  static void at(String what, FerryBells x, int landing) {
    due(what + ": AT", x.boat(0), landing);
    due(what + ": UNDER WAY to", x.boat(1), -4);
    due(what + ": MINUTES left", x.boat(2), 0);
  }

  static void underWay(String what, FerryBells x, int landing, int left) {
    due(what + ": AT", x.boat(0), -4);
    due(what + ": UNDER WAY to", x.boat(1), landing);
    due(what + ": MINUTES left", x.boat(2), left);
  }

  // ---- Terms 1: a river, what it has at first and at most

  static void atFirst() {
    edge("1 Three LANDINGS, no SORTS; SEATS 3 at first; nobody STANDS, the MINUTE 0", () -> {
      FerryBells x = new FerryBells();
      int[] counts = {3, 0, 3, 0, 0, 0};
      for (int i = 0; i < counts.length; i++) {
        due("count " + i, x.count(i), counts[i]);
      }
      for (int l = 0; l < 3; l++) {
        stand(x, l);
      }
      due("no LANDING 3", x.stand(3, -1, 0), -1);
      due("no SORT", x.sort(0, 0), -1);
      told(x, 0, 0, 0, 0);
    });
    edge("the BOAT is AT a LANDING (0 at first); the BOAT's is a RULE with 0 at first", () -> {
      FerryBells x = new FerryBells();
      at("at first", x, 0);
      aboard(x);
      due("KIND", x.boat(4), 0);
    });
    edge("z is 1 at first", () -> due("z", new FerryBells().set(1, 5), 1));
    edge("SHELVES 0 .. 7 each hold nothing (at first)", () -> {
      FerryBells x = new FerryBells();
      for (int d = 0; d < 8; d++) {
        due("toss " + d, x.toss(d), -11);
        due("judge " + d, x.judge(0, d), -11);
        due("keep " + d, x.keep(d, 1, 0, d + 1), 0);
      }
      for (int d = 0; d < 8; d++) {
        due("toss " + d, x.toss(d), d + 1);
      }
    });
    edge("MINUTES from each to each other one (3 at first)", () -> {
      FerryBells x = with("n4;");
      for (int a = 0; a < 4; a++) {
        for (int b = 0; b < 4; b++) {
          due(a + " to " + b, x.minutes(a, b), a == b ? -1 : 3);
        }
      }
    });
  }

  static void riverBounds() {
    edge("LANDINGS 0 .. 3 (2 .. 4 of them)", () -> {
      for (int n = 0; n < 10; n++) {
        FerryBells x = new FerryBells();
        boolean good = n >= 2 && n <= 4;
        due("n" + n, read(x, "n" + n + ";"), good ? 1 : -2000);
        due("LANDINGS", x.count(0), good ? n : 3);
      }
    });
    edge("a LANDING that isn't there: the last one is, the next isn't", () -> {
      for (int n = 2; n <= 4; n++) {
        FerryBells x = with("n" + n + ";");
        x.keep(0, 1, 0, 0);
        x.row(1, 0, 0);
        landings(x, n - 1, true);
        landings(x, n, false);
      }
    });
    edge("MINUTES (1 .. 9, both ways alike)", () -> {
      for (int v = 0; v < 10; v++) {
        FerryBells x = new FerryBells();
        due("m12 " + v, read(x, "m12 " + v + ";"), v > 0 ? 1 : -2000);
        due("1 to 2", x.minutes(1, 2), v > 0 ? v : 3);
        due("2 to 1", x.minutes(2, 1), v > 0 ? v : 3);
        due("0 to 1", x.minutes(0, 1), 3);
      }
      FerryBells x = with("n4;m01 1;m20 2;m03 4;m21 5;m13 6;m32 9;");
      int[][] ways = {{-1, 1, 2, 4}, {1, -1, 5, 6}, {2, 5, -1, 9}, {4, 6, 9, -1}};
      for (int i = 0; i < 16; i++) {
        due(i / 4 + " to " + i % 4, x.minutes(i / 4, i % 4), ways[i / 4][i % 4]);
      }
    });
    edge("SORTS 0 .. 4: five of them have room, a sixth hasn't", () -> {
      String five = "s01 1 1 1;s12 2 2 2;s20 3 3 3;s02 4 4 4;s10 5 5 5;";
      FerryBells x = with(five);
      due("SORTS", x.count(1), 5);
      due("SORT 4", x.sort(4, 3), 5);
      due("SORT 5", x.sort(5, 3), -1);
      due("comes 4", x.comes(4, 6), 5);
      due("comes 5", x.comes(5, 6), -1);
      due("a sixth", read(x, "s01 1 1 1;"), -2000);
      due("SORTS", x.count(1), 5);
      due("six in one text", read(five + "s01 1 1 1;"), -2000 - five.length());
    });
    edge("FROM, TO (LANDINGS, unlike)", () -> {
      for (int from = 0; from < 10; from++) {
        for (int to = 0; to < 10; to++) {
          FerryBells x = new FerryBells();
          boolean good = from < 3 && to < 3 && from != to;
          due("s" + from + to, read(x, "s" + from + to + " 1 1 1;"), good ? 1 : -2000);
          due("FROM", x.sort(0, 0), good ? from : -1);
          due("TO", x.sort(0, 1), good ? to : -1);
        }
      }
    });
    edge("COMES (0 .. 100)", () -> number("s01 ", " 1 1;", 2, 0, 100));
    edge("WAITS (1 .. 20 MINUTES)", () -> number("s01 1 ", " 1;", 3, 1, 20));
    edge("PAYS (0 .. 99)", () -> number("s01 1 1 ", ";", 4, 0, 99));
    edge("SEATS (1 .. 6)", () -> {
      for (int b = 0; b < 10; b++) {
        FerryBells x = new FerryBells();
        boolean good = b >= 1 && b <= 6;
        due("b" + b, read(x, "b" + b + ";"), good ? 1 : -2000);
        due("SEATS", x.count(2), good ? b : 3);
        due("set to " + b, x.set(0, b), good ? b : -1);
      }
    });
  }

  static void landings(FerryBells x, int l, boolean there) {
    due("minutes to " + l, x.minutes(0, l), there ? 3 : -1);
    due("minutes from " + l, x.minutes(l, 0), there ? 3 : -1);
    due("stand at " + l, x.stand(l, -1, 0), there ? 0 : -1);
    due("day from " + l, x.day(0, l, 1, 1, 0), there ? 0 : -1);
    due("mean from " + l, x.mean(0, l, 1, 1, 1), there ? 0 : LESS - 1);
    due("enough from " + l, x.enough(0, l, 1, 1), there ? 1 : -1);
    due("lantern from " + l, x.lantern(0, l, 1, 1, 0), there ? 0 : LESS - 1);
    due("son from " + l, x.son(0, l, 0, 1, 1), there ? 0 : LESS - 1);
    due("son, other " + l, x.son(0, 0, l, 1, 1), there ? 0 : LESS - 1);
    due("nobody to " + l, x.nobody(l, 4, 0), there ? 1 : FAR - 1);
    due("judge " + l, x.judge(l, 1), there ? -4 : -1);
    due("tell " + l, x.tell(l), there ? 3 : -1);
  }

  static void number(String ahead, String behind, int what, int low, int high) {
    int[] numbers = {0, 1, 2, 9, 10, 19, 20, 21, 98, 99, 100, 101, 255, 256, 999};
    for (int n : numbers) {
      FerryBells x = new FerryBells();
      boolean good = n >= low && n <= high;
      due(ahead + n, read(x, ahead + n + behind), good ? 1 : -2000);
      due("of the SORT", x.sort(0, what), good ? n : -1);
    }
  }

  // ---- Terms 1: a MINUTE

  /** What z without its sign's bit over 65536, cut, modulo 100 will be next. */
  static int chance(int z) {
    long next = ((long) z * 1103515245L + 12345L) & 0x7fffffffL;
    return (int) (next / 65536L % 100L);
  }

  static int next(int z) {
    return (int) ((long) z * 1103515245L + 12345L);
  }

  static void comingByChance(int z) {
    int chance = chance(z);
    FerryBells x = with("s10 0 20 0;");
    due("COMES " + chance, x.comes(0, chance), 0);
    x.set(1, z);
    x.go(1);
    due("z " + z + ", COMES as much: nobody comes", x.stand(1, -1, 0), 0);
    due("z behind " + z, x.set(1, z), next(z));
    due("COMES " + (chance + 1), x.comes(0, chance + 1), chance);
    x.go(1);
    due("z " + z + ", COMES one above: one comes", x.stand(1, -1, 0), 1);
  }

  static void coming() {
    edge("if (z without its sign's bit over 65536, cut) modulo 100 is below its COMES", () -> {
      boolean[] seen = new boolean[100];
      boolean[] signs = new boolean[2];
      for (int z = -300; z <= 300; z++) {
        comingByChance(z);
        seen[chance(z)] = true;
        signs[next(z) < 0 ? 1 : 0] = true;
      }
      due("chance 0, 99 and both signs were seen",
          seen[0] && seen[99] && signs[0] && signs[1] ? 1 : 0, 1);
    });
    edge("z becomes z times 1103515245 plus 12345 (an int): it wraps around", () -> {
      for (int z : new int[] {MIN, MIN + 1, -1, 0, 1, 2, MAX - 1, MAX, 65535, 65536, -65536}) {
        comingByChance(z);
      }
    });
    edge("COMES 0 .. 100: with 0 nobody ever comes, with 100 one does each MINUTE", () -> {
      FerryBells x = with("s10 0 20 0;s20 100 20 0;");
      x.go(12);
      stand(x, 1);
      stand(x, 2, 1, 1, 1, 1, 1, 1, 1, 1, 1, 1, 1, 1);
    });
    edge("For each SORT by numbers: with COMES 0, too; with no SORTS z stays", () -> {
      FerryBells x = with("s10 0 20 0;s12 0 20 0;");
      x.go(1);
      due("z behind two", x.set(1, 1), next(next(1)));
      x = new FerryBells();
      x.go(60);
      due("z behind none", x.set(1, 1), 1);
      x = with("s10 100 20 0;s12 100 20 0;s10 100 20 0;");
      x.go(2);
      stand(x, 1, 0, 1, 2, 0, 1, 2);
      since(x, 1, 2, 2, 2, 1, 1, 1);
    });
    edge("People STAND (12 at each at most); with 12 there it has WALKED at once", () -> {
      FerryBells x = with("s10 100 20 0;s20 100 20 0;");
      x.go(12);
      due("twelve at 1", x.stand(1, -1, 0), 12);
      due("twelve at 2, too", x.stand(2, -1, 0), 12);
      due("the twelfth at 2", x.stand(2, 11, 0), 1);
      due("all", x.count(4), 24);
      told(x, 2 * 78, 0, 0, 0);
      x.go(1);
      due("no thirteenth", x.stand(1, -1, 0), 12);
      due("nor at 2", x.stand(2, 12, 0), -4);
      since(x, 1, 13, 12, 11);
      told(x, 2 * 90, 2, 0, 0);
    });
    edge("with 12 there it has WALKED at once: the last of four fills it", () -> {
      FerryBells x = with("s10 100 20 0;s10 100 20 0;s12 100 20 0;s12 100 20 0;");
      x.go(3);
      due("twelve", x.stand(1, -1, 0), 12);
      due("none WALKED", x.told(1), 0);
      x.go(1);
      due("four WALKED", x.told(1), 4);
      stand(x, 1, 0, 1, 2, 3, 0, 1, 2, 3, 0, 1, 2, 3);
    });
    edge("1 ahead of 3: who comes while 12 STAND has WALKED, though the BOAT comes then", () -> {
      FerryBells x = with("m01 1;s01 100 20 1;");
      x.tell(1);
      x.go(12);
      due("twelve", x.stand(0, -1, 0), 12);
      x.tell(0);
      x.go(1);
      due("one WALKED", x.told(1), 1);
      aboard(x, 0, 0, 0);
      due("nine STAND", x.stand(0, -1, 0), 9);
      told(x, 78 + 9, 1, 0, 0);
    });
    edge("one comes to STAND since 0 MINUTES", () -> {
      FerryBells x = ruled("s10 100 20 1;", 2, 0);
      x.go(1);
      underWay("LIE with 0 is called at once", x, 1, 3);
      since(x, 1, 1);
      x = ruled("s10 100 20 1;", 2, 1);
      x.go(1);
      at("LIE with 1 isn't", x, 0);
    });
  }

  static void sailing() {
    edge("2 UNDER WAY: one MINUTE left less; with none left it is AT that LANDING", () -> {
      for (int way = 1; way <= 9; way++) {
        FerryBells x = with("m01 " + way + ";s01 100 20 7;");
        x.go(1);
        x.comes(0, 0);
        for (int left = way; left > 0; left--) {
          underWay("way " + way, x, 1, left);
          told(x, 0, 0, 0, 0);
          x.go(1);
        }
        at("way " + way, x, 1);
        told(x, 0, 0, 7, 1);
      }
    });
    edge("all ABOARD whose TO that is get off, and have PAID; the others stay in order", () -> {
      FerryBells x = ruled("b6;" + NEAR
          + "s02 100 20 1;s01 100 20 2;s02 100 20 4;s01 100 20 8;", 1, 9);
      x.go(1);
      aboard(x, 0, 1, 2, 3);
      told(x, 0, 0, 0, 0);
      x.go(1);
      at("a TURN that waits", x, 1);
      aboard(x, 0, 2);
      told(x, 4, 0, 10, 2);
    });
    edge("all ABOARD get off: six, none, and with PAYS 0", () -> {
      FerryBells x = ruled("b6;" + NEAR + "s01 100 20 0;s02 0 20 9;", 4, 5);
      x.go(6);
      aboard(x, 0, 0, 0, 0, 0, 0);
      x.go(1);
      aboard(x);
      told(x, 1, 0, 0, 6);
    });
    edge("3 those who STAND there come ABOARD in order, while there are SEATS", () -> {
      for (int seats = 1; seats <= 6; seats++) {
        FerryBells x = ruled("b" + seats
            + ";s01 100 20 1;s02 100 20 1;s01 100 20 1;s02 100 20 1;s01 100 20 1;", 4, 9);
        x.go(1);
        due("as many as SEATS", x.boat(3), Math.min(seats, 5));
        for (int i = 0; i < Math.min(seats, 5); i++) {
          due("in order " + i, x.aboard(i), i);
        }
        due("the others STAND", x.stand(0, -1, 0), Math.max(0, 5 - seats));
        for (int i = seats; i < 5; i++) {
          due("in order, too", x.stand(0, i - seats, 0), i);
        }
      }
    });
    edge("come ABOARD in order: behind those who are there, the rest moves up in order", () -> {
      FerryBells x = ruled("b6;s01 100 20 1;s02 100 20 1;s01 100 20 1;s02 100 20 1;", 4, 9);
      x.go(2);
      aboard(x, 0, 1, 2, 3, 0, 1);
      stand(x, 0, 2, 3);
      since(x, 0, 1, 1);
      underWay("all SEATS taken", x, 1, 3);
      x.go(1);
      stand(x, 0, 2, 3, 0, 1, 2, 3);
      since(x, 0, 2, 2, 1, 1, 1, 1);
    });
    edge("those who STAND on stand since as many MINUTES as they did", () -> {
      FerryBells x = with("m01 1;s01 100 4 1;");
      x.tell(1);
      x.go(3);
      since(x, 0, 3, 2, 1);
      x.set(0, 1);
      x.tell(0);
      x.go(1);
      aboard(x, 0);
      since(x, 0, 3, 2, 1);
      told(x, 1 + 2 + 3 + 3, 0, 0, 0);
      x.go(1);
      since(x, 0, 3, 2, 1);
      told(x, 9 + 4, 1, 1, 1);
    });
    edge("2, 3, 4 in one MINUTE: off, ABOARD, UNDER WAY again", () -> {
      FerryBells x = with("m01 1;s01 100 20 3;s10 100 20 5;");
      x.go(1);
      underWay("the first", x, 1, 1);
      aboard(x, 0);
      x.go(1);
      underWay("back at once", x, 0, 1);
      aboard(x, 1, 1);
      stand(x, 0, 0);
      told(x, 2, 0, 3, 1);
    });
  }

  static void walking() {
    edge("5 who then STANDS for its WAITS MINUTES has WALKED (1 .. 20)", () -> {
      for (int waits = 1; waits <= 20; waits++) {
        FerryBells x = with("s10 100 " + waits + " 1;");
        x.go(1);
        x.comes(0, 0);
        if (waits > 1) {
          due("one STANDS", x.stand(1, -1, 0), 1);
          go(x, waits - 2);
          since(x, 1, waits - 1);
          told(x, waits - 1, 0, 0, 0);
          x.go(1);
        }
        stand(x, 1);
        told(x, waits, 1, 0, 0);
        x.go(1);
        told(x, waits, 1, 0, 0);
      }
    });
    edge("who then STANDS for its WAITS: from the middle, the others stay in order", () -> {
      FerryBells x = with("s10 100 9 1;s10 100 2 1;s12 100 9 1;s12 100 1 1;s12 100 9 1;");
      x.go(1);
      stand(x, 1, 0, 1, 2, 4);
      told(x, 5, 1, 0, 0);
      x.go(1);
      stand(x, 1, 0, 2, 4, 0, 1, 2, 4);
      since(x, 1, 2, 2, 2, 1, 1, 1, 1);
      told(x, 5 + 9, 3, 0, 0);
    });
    edge("All who STAND have WAITED one MINUTE more: not those who came ABOARD", () -> {
      FerryBells x = with("s01 100 20 1;");
      x.go(1);
      told(x, 0, 0, 0, 0);
      x.go(1);
      told(x, 1, 0, 0, 0);
      x.go(2);
      told(x, 6, 0, 1, 1);
    });
    edge("5 behind 3: who comes ABOARD in the last MINUTE of its WAITS has not WALKED", () -> {
      for (int waits = 3; waits <= 4; waits++) {
        FerryBells x = with("m01 2;s01 100 " + waits + " 1;");
        x.tell(1);
        x.go(1);
        x.comes(0, 0);
        x.go(1);
        at("behind two MINUTES", x, 1);
        x.tell(0);
        x.go(2);
        due("WAITS " + waits + ": WALKED", x.told(1), waits == 3 ? 1 : 0);
        due("ABOARD", x.boat(3), waits == 3 ? 0 : 1);
      }
    });
    edge("those who walked make room: the thirteenth of the next MINUTE STANDS", () -> {
      FerryBells x = with("s10 100 12 0;");
      x.go(12);
      due("the first of twelve WALKED", x.told(1), 1);
      due("eleven", x.stand(1, -1, 0), 11);
      x.go(1);
      due("again the first", x.told(1), 2);
      due("eleven again", x.stand(1, -1, 0), 11);
    });
    edge("the DAY's MINUTES are 0 .. 999", () -> {
      FerryBells x = with("s10 100 1 0;");
      go(x, 960);
      due("to 999", x.go(39), 999);
      due("the MINUTE", x.count(3), 999);
      told(x, 999, 999, 0, 0);
      due("beyond", x.go(1), -2);
      told(x, 999, 999, 0, 0);
    });
  }

  // ---- Terms 1: RULES

  /** The BOAT lies AT 0 for so many MINUTES, and goes in the next. */
  static void goesIn(String what, FerryBells x, int minute, int to) {
    go(x, minute);
    at(what + " lies until " + minute, x, 0);
    x.go(1);
    due(what + " goes in " + minute, x.boat(1), to);
  }

  static final String ONE_TO_1 = "s10 100 20 1;";
  static final String TWO_TO_1 = "s10 100 20 1;s12 100 20 1;";

  static void rules() {
    edge("RULE: with somebody ABOARD; else none", () -> {
      FerryBells x = ruled(ONE_TO_1 + "s01 0 20 1;", 0, 0);
      x.go(5);
      at("nobody ABOARD", x, 0);
      x.comes(1, 100);
      x.go(1);
      underWay("one ABOARD", x, 1, 3);
    });
    edge("RULE: to the TO of the first ABOARD, whatever its FIGURE", () -> {
      for (int figure = 0; figure <= 9; figure++) {
        FerryBells x = ruled("s02 100 9 1;s01 100 9 1;s01 100 9 1;", 0, figure);
        x.go(1);
        underWay("the first's", x, 2, 3);
      }
    });
    edge("TURN: where the MINUTE is a multiple of FIGURE and 1 (0, too)", () -> {
      for (int figure = 0; figure <= 9; figure++) {
        FerryBells x = ruled("n2;m01 1;", 1, figure);
        int from = 0;
        for (int minute = 0; minute < 21; minute++) {
          x.go(1);
          if (minute % (figure + 1) == 0) {
            underWay("TURN " + figure + " in " + minute, x, 1 - from, 1);
            from = 1 - from;
          } else {
            at("TURN " + figure + " in " + minute, x, from);
          }
        }
      }
    });
    edge("TURN: to the LANDING of the next number (behind the last 0)", () -> {
      for (int n = 2; n <= 4; n++) {
        FerryBells x = ruled("n" + n + ";m01 1;" + (n > 2 ? "m12 1;m02 1;" : "")
            + (n > 3 ? "m23 1;m03 1;" : ""), 1, 0);
        for (int k = 1; k < 10; k++) {
          x.go(1);
          underWay("of " + n, x, k % n, 1);
        }
      }
    });
    edge("TURN: whoever is ABOARD (nobody, too)", () -> {
      FerryBells x = ruled("s02 100 9 1;", 1, 0);
      x.go(1);
      underWay("past its TO", x, 1, 3);
      x = ruled(ONE_TO_1, 1, 0);
      x.go(1);
      underWay("with nobody", x, 1, 3);
    });
    edge("LIE: if FIGURE MINUTES or more (0 .. 9)", () -> {
      for (int figure = 0; figure <= 9; figure++) {
        goesIn("LIE " + figure, ruled(ONE_TO_1, 2, figure), figure, 1);
      }
    });
    edge("LIE: ABOARD as a RULE", () -> {
      for (int kind : new int[] {2, 3}) {
        FerryBells x = ruled("s02 100 9 1;s01 100 9 1;s01 100 9 1;s10 100 9 1;s10 100 9 1;", kind, 0);
        x.go(1);
        underWay("kind " + kind + ": not to those who STAND", x, 2, 3);
      }
    });
    edge("LIE: where the one STANDS who has stood longest, be there more elsewhere", () -> {
      FerryBells x = ruled("s20 100 20 1;s10 0 20 1;s12 0 20 1;s12 0 20 1;", 2, 3);
      x.go(1);
      for (int sort = 1; sort < 4; sort++) {
        x.comes(sort, 100);
      }
      x.go(2);
      at("not yet", x, 0);
      x.go(1);
      underWay("the longest", x, 2, 3);
    });
    edge("LIE: the longest of those who stand FIGURE MINUTES, at a greater LANDING too", () -> {
      FerryBells x = ruled("n4;s20 100 20 1;s10 0 20 1;", 2, 0);
      x.tell(3);
      x.go(1);
      x.comes(1, 100);
      x.go(2);
      since(x, 2, 3, 2, 1);
      since(x, 1, 2, 1);
      underWay("the longest", x, 2, 3);
      x = ruled("n4;s10 100 20 1;s20 0 20 1;", 2, 0);
      x.tell(3);
      x.go(1);
      x.comes(1, 100);
      x.go(2);
      underWay("the longest", x, 1, 3);
    });
    edge("LIE: of several the least LANDING", () -> {
      FerryBells x = ruled("n4;s30 100 9 1;s20 100 9 1;s10 100 9 1;", 2, 0);
      x.go(1);
      underWay("1 of 1, 2, 3", x, 1, 3);
      x = ruled("n4;s30 100 9 1;s21 100 9 1;", 2, 0);
      x.go(1);
      underWay("2 of 2, 3", x, 2, 3);
      x = called("s10 100 20 1;s01 100 20 1;", 2, 2);
      underWay("0 of 0, 1", x, 0, 3);
    });
    edge("LIE: with nobody ABOARD and nobody who STANDS: none", () -> {
      FerryBells x = ruled("s10 0 20 1;", 2, 0);
      x.go(9);
      at("LIE", x, 0);
    });
    edge("BUSY: to where most STAND, if more than FIGURE (0 .. 9)", () -> {
      for (int figure = 0; figure <= 9; figure++) {
        goesIn("BUSY " + figure, ruled(ONE_TO_1, 3, figure), figure, 1);
        goesIn("BUSY " + figure + " by twos", ruled(TWO_TO_1, 3, figure), figure / 2, 1);
      }
    });
    edge("BUSY: to where most STAND, be one longer elsewhere", () -> {
      FerryBells x = ruled("s10 100 20 1;s20 0 20 1;s21 0 20 1;", 3, 3);
      x.go(2);
      x.comes(1, 100);
      x.comes(2, 100);
      x.go(1);
      at("three at 1, two at 2", x, 0);
      x.go(1);
      underWay("four each: the least", x, 1, 3);
      x = ruled("s10 100 20 1;s20 0 20 1;s21 0 20 1;", 3, 4);
      x.go(2);
      x.comes(1, 100);
      x.comes(2, 100);
      x.go(3);
      underWay("five at 1, six at 2", x, 2, 3);
    });
    edge("BUSY: of several the least LANDING", () -> {
      for (int kind : new int[] {3, 5}) {
        FerryBells x = ruled("n4;s30 100 9 1;s20 100 9 1;s10 100 9 1;", kind, 0);
        x.go(1);
        underWay("1 of 1, 2, 3", x, 1, 3);
        x = called("s10 100 20 1;s01 100 20 1;", kind, 2);
        underWay("0 of 0, 1", x, 0, 3);
      }
    });
  }

  /** Behind its way to 2 the BOAT is called from there by three who STAND at each of 0 and 1. */
  static FerryBells called(String text, int kind, int figure) {
    FerryBells x = ruled(text, kind, figure);
    x.tell(2);
    x.go(2);
    underWay("not there yet", x, 2, 1);
    x.go(1);
    return x;
  }

  static final String STEADY = "s01 100 20 1;";

  static void moreRules() {
    edge("FULL: as a RULE with more than FIGURE ABOARD (0 .. 9), or all SEATS taken", () -> {
      for (int figure = 0; figure <= 9; figure++) {
        for (int seats = 1; seats <= 6; seats++) {
          goesIn("FULL " + figure + " of " + seats, ruled("b" + seats + ";" + STEADY, 4, figure),
              Math.min(figure, seats - 1), 1);
        }
      }
    });
    edge("FULL: or nobody left to come here (no SORT with COMES above 0 from here)", () -> {
      FerryBells x = ruled(STEADY + "s02 0 20 1;s10 100 20 1;", 4, 9);
      x.go(1);
      x.comes(0, 1);
      x.set(1, 0);
      x.go(1);
      at("COMES 1 is above 0", x, 0);
      x.comes(0, 0);
      x.comes(1, 1);
      x.set(1, 0);
      x.go(1);
      at("another SORT from here", x, 0);
      x.comes(1, 0);
      x.go(1);
      underWay("from elsewhere alone", x, 1, 3);
    });
    edge("FULL: as a RULE, so none with nobody ABOARD", () -> {
      FerryBells x = ruled(ONE_TO_1, 4, 0);
      x.go(9);
      at("FULL", x, 0);
    });
    edge("FULL: to the TO of the first ABOARD", () -> {
      FerryBells x = ruled("s02 100 9 1;s01 100 9 1;s01 100 9 1;", 4, 2);
      x.go(1);
      underWay("the first's", x, 2, 3);
    });
    edge("BEST: with nobody ABOARD as BUSY, if more than FIGURE (0 .. 9)", () -> {
      for (int figure = 0; figure <= 9; figure++) {
        goesIn("BEST " + figure, ruled(ONE_TO_1, 5, figure), figure, 1);
        goesIn("BEST " + figure + " by twos", ruled(TWO_TO_1, 5, figure), figure / 2, 1);
      }
    });
    edge("BEST: else to the TO of most ABOARD, whatever its FIGURE", () -> {
      for (int figure = 0; figure <= 9; figure++) {
        FerryBells x = ruled("s01 100 9 1;s02 100 9 1;s02 100 9 1;s10 100 9 1;", 5, figure);
        x.go(1);
        underWay("BEST " + figure, x, 2, 3);
        x = ruled("s02 100 9 1;", 5, figure);
        x.go(1);
        underWay("one ABOARD", x, 2, 3);
      }
    });
    edge("BEST: to the TO of most ABOARD (of several the least LANDING)", () -> {
      FerryBells x = ruled("n4;s03 100 9 1;s02 100 9 1;s01 100 9 1;", 5, 0);
      x.go(1);
      underWay("1 of 1, 2, 3", x, 1, 3);
      x = ruled("n4;s03 100 9 1;s02 100 9 1;", 5, 0);
      x.go(1);
      underWay("2 of 2, 3", x, 2, 3);
      x = ruled("n4;b4;s32 100 9 1;s30 100 9 1;", 5, 9);
      x.tell(3);
      x.go(3);
      underWay("0 of 0, 2", x, 0, 3);
    });
    edge("TOLD: to the LANDING of the number FIGURE modulo how many there are (none, if here)", () -> {
      for (int n = 2; n <= 4; n++) {
        for (int figure = 0; figure <= 9; figure++) {
          FerryBells x = ruled("n" + n + ";", 6, figure);
          x.go(1);
          if (figure % n == 0) {
            at("TOLD " + figure + " of " + n, x, 0);
          } else {
            underWay("TOLD " + figure + " of " + n, x, figure % n, 3);
          }
        }
      }
    });
    edge("TOLD: as a TURN, where the MINUTE is a multiple of FIGURE and 1", () -> {
      for (int figure = 1; figure <= 9; figure++) {
        if (figure % 3 == 0) {
          continue;
        }
        FerryBells x = new FerryBells();
        x.go(1);
        rule(x, 6, figure);
        x.go(figure);
        at("TOLD " + figure + " lies", x, 0);
        x.go(1);
        underWay("TOLD " + figure, x, figure % 3, 3);
        go(x, 40);
        at("TOLD " + figure + " stays there", x, figure % 3);
      }
    });
    edge("TOLD: as a TURN, whoever is ABOARD", () -> {
      FerryBells x = ruled(STEADY, 6, 2);
      x.go(1);
      underWay("past its TO", x, 2, 3);
    });
    edge("each with a FIGURE (0 .. 9); KINDS 0 .. 6", () -> {
      FerryBells x = new FerryBells();
      for (int kind = -1; kind <= 7; kind++) {
        for (int figure = -1; figure <= 10; figure++) {
          boolean good = kind >= 0 && kind <= 6 && figure >= 0 && figure <= 9;
          due(kind + " with " + figure, x.keep(0, 1, kind, figure), good ? 0 : -1);
          due("its KIND", good ? x.rule(0) : kind, kind);
        }
      }
    });
  }

  // ---- Terms 2: a RIVER as a text

  static void texts() {
    edge("At least one STATEMENT; the size, if it ends too early", () -> due("empty", read(""), -1000));
    edge("the size, if it ends too early", () -> {
      for (String text : new String[] {"n3;", "b6;", "m01 5;", "s01 10 20 30;", "s20 0 1 0;"}) {
        for (int size = 0; size < text.length(); size++) {
          due(text.substring(0, size), read(text.substring(0, size)), -1000 - size);
          due("n3;" + text.substring(0, size), read("n3;" + text.substring(0, size)),
              size == 0 ? 1 : -1003 - size);
        }
        due(text, read(text), 1);
      }
    });
    edge("kind 1 the place of the first byte with which no RIVER can go on", () -> {
      String digits = "0123456789";
      String[] n = {"nmsb", digits, ";"};
      String[] m = {"nmsb", digits, digits, " ", digits, ";"};
      String[] s = {"nmsb", digits, digits, " ", digits, digits + " ", digits + " ", digits,
          digits + " ", digits + " ", digits, digits + ";", digits + ";"};
      tryBytes("n3;", n);
      tryBytes("b3;", n);
      tryBytes("m01 5;", m);
      tryBytes("s01 10 20 30;", s);
    });
    edge("NUMBERS have 1 to 3 digits", () -> {
      due("none", read("s01  1 1;"), -1004);
      due("no WAITS", read("s01 1  1;"), -1006);
      due("no PAYS", read("s01 1 1 ;"), -1008);
      due("three of them each", read("s01 100 100 100;"), -2000);
      due("four", read("s01 1000 1 1;"), -1007);
      due("four of WAITS", read("s01 1 1000 1;"), -1009);
      due("four of PAYS", read("s01 1 1 1000;"), -1011);
    });
    edge("NUMBERS: no 0 ahead of another", () -> {
      due("0 alone", read("s01 0 1 0;"), 1);
      due("0 alone of WAITS", read("s01 0 0 0;"), -2000);
      due("00", read("s01 00 1 1;"), -1005);
      due("01 of WAITS", read("s01 1 01 1;"), -1007);
      due("09 of PAYS", read("s01 1 1 09;"), -1009);
      due("0s behind", read("s01 100 20 90;"), 1);
    });
    edge("a digit: LANDINGS, MINUTES and SEATS have one", () -> {
      due("n03;", read("n03;"), -1002);
      due("b03;", read("b03;"), -1002);
      due("m01 05;", read("m01 05;"), -1005);
      due("s012 1 1 1;", read("s012 1 1 1;"), -1003);
    });
    edge("STATEMENTS, each with ; behind", () -> {
      due("one more", read("n3;;"), -1003);
      due("a blank between", read("n3; n3;"), -1003);
      due("none behind the last", read("n3;b3"), -1005);
    });
    edge("a full ROW is read to its end", () -> {
      String thirty = "b3;".repeat(30);
      due("100 bytes", read(thirty + "s01 1 1 1;"), 31);
      due("99 bytes", read("b3;".repeat(33)), 33);
      due("100 bytes, too early", read("b3;".repeat(33) + "b"), -1100);
      due("the last byte", read(thirty + "s01 1 1 1:"), -1099);
      due("the last STATEMENT", read(thirty + "s01 1 0 1;"), -2090);
    });
    edge("kind 1 (of any place) goes ahead of kind 2", () -> {
      due("behind it", read("n9;b3;x"), -1006);
      due("behind it, too early", read("n9;b3;b"), -1007);
      due("in the same STATEMENT", read("n9,"), -1002);
      due("kind 2 alone", read("b3;n9;n1;"), -2003);
    });
    edge("the first that can't be done so is told", () -> {
      due("n9;n1;", read("b3;m11 1;n1;"), -2003);
      due("m of 0 MINUTES", read("m12 1;m12 0;b9;"), -2006);
    });
    edge("STATEMENTS are tried each on what those ahead of it made", () -> {
      due("a LANDING made", read("n4;m03 2;s31 1 1 1;"), 3);
      due("one not yet made", read("m03 2;n4;"), -2000);
      due("one that went", read("n2;m12 2;"), -2003);
      due("a SORT ahead", read("s12 1 1 1;n2;"), -2010);
      due("no SORT ahead", read("n2;s01 1 1 1;"), 2);
      due("up and down", read("n4;n2;n3;"), 3);
    });
    edge("Without FAULT all of it comes; with one nothing", () -> {
      FerryBells x = with("s12 9 9 9;");
      due("a FAULT at last", read(x, "n4;b6;m01 9;s01 1 1 1;s03 1 1 1;b7;"), -2032);
      for (int i = 0; i < 3; i++) {
        due("count " + i, x.count(i), new int[] {3, 1, 3}[i]);
      }
      due("MINUTES", x.minutes(0, 1), 3);
      due("kind 1 at last", read(x, "n4;b6;m01 9;s01 1 1 1;s03 1 1 1;b"), -1033);
      due("LANDINGS", x.count(0), 3);
      due("without", read(x, "n4;b6;m01 9;s01 1 1 1;s03 1 1 1;"), 5);
      for (int i = 0; i < 3; i++) {
        due("count " + i, x.count(i), new int[] {4, 3, 6}[i]);
      }
      due("MINUTES", x.minutes(1, 0), 9);
      due("the ROW stays", x.judge(0, 7), 0);
    });
    edge("a LANDING that isn't there then, one twice", () -> {
      for (String two : new String[] {"00", "11", "22", "03", "30", "13", "31", "33", "09", "90"}) {
        due("m" + two, read("m" + two + " 1;"), -2000);
        due("s" + two, read("s" + two + " 1 1 1;"), -2000);
      }
    });
  }

  /** Each byte that isn't told at a place, put there, is the FAULT. */
  static void tryBytes(String text, String[] told) {
    for (int i = 0; i < told.length; i++) {
      for (int half = -128; half <= 0; half += 128) {
        FerryBells x = new FerryBells();
        write(x, 7, 0, text.chars().toArray());
        for (int v = half; v < half + 128; v++) {
          if (v < 0 || told[i].indexOf(v) < 0) {
            x.put(7, i, v);
            due(text + " with " + v + " at " + i, x.river(7), -1000 - i);
          }
        }
      }
    }
  }

  static void texts2() {
    edge("n: while people STAND", () -> {
      FerryBells x = with(ONE_TO_1);
      x.go(1);
      aboard(x);
      for (int n = 2; n <= 4; n++) {
        due("n" + n, read(x, "n" + n + ";"), -2000);
      }
      x.comes(0, 0);
      x.go(20);
      due("nobody STANDS", read(x, "n4;"), 1);
    });
    edge("n: while people are ABOARD", () -> {
      FerryBells x = with(STEADY);
      x.go(1);
      stand(x, 0);
      for (int n = 2; n <= 4; n++) {
        due("n" + n, read(x, "n" + n + ";"), -2000);
      }
      x.comes(0, 0);
      x.go(3);
      aboard(x);
      due("nobody ABOARD", read(x, "n4;"), 1);
    });
    edge("n: a SORT has a LANDING that would not be there", () -> {
      String[] sorts = {"s01", "s02", "s20", "s03", "s31"};
      int[] least = {2, 3, 3, 4, 4};
      for (int i = 0; i < sorts.length; i++) {
        for (int n = 2; n <= 4; n++) {
          FerryBells x = with("n4;" + sorts[i] + " 0 1 0;");
          due(sorts[i] + ", n" + n, read(x, "n" + n + ";"), n >= least[i] ? 1 : -2000);
          due("LANDINGS", x.count(0), n >= least[i] ? n : 4);
        }
      }
      due("the last SORT, too", read("s01 0 1 0;s10 0 1 0;s12 0 1 0;n2;"), -2030);
    });
    edge("n: the BOAT has a LANDING that would not be there", () -> {
      for (int landing = 1; landing <= 3; landing++) {
        for (int minutes = 0; minutes <= 3; minutes++) {
          for (int n = 2; n <= 4; n++) {
            FerryBells x = with("n4;");
            x.tell(landing);
            go(x, minutes);
            due("BOAT to " + landing + " for " + minutes + ", n" + n, read(x, "n" + n + ";"),
                n > landing ? 1 : -2000);
          }
        }
      }
    });
    edge("b and SEATS (not below how many are ABOARD)", () -> {
      for (int seats = 0; seats <= 7; seats++) {
        FerryBells x = ruled("s01 100 9 1;s02 100 9 1;s01 100 9 1;", 4, 2);
        x.go(1);
        aboard(x, 0, 1, 2);
        boolean good = seats >= 3 && seats <= 6;
        due("b" + seats, read(x, "b" + seats + ";"), good ? 1 : -2000);
        due("SEATS", x.count(2), good ? seats : 3);
      }
    });
    edge("s: a SORT more, while the day goes on", () -> {
      FerryBells x = with(ONE_TO_1);
      x.go(2);
      due("s", read(x, "s12 100 3 4;"), 1);
      x.go(1);
      stand(x, 1, 0, 0, 0, 1);
      since(x, 1, 3, 2, 1, 1);
    });
    edge("the ROW that is read stays there", () -> {
      FerryBells x = new FerryBells();
      String text = "m01 2;b4;";
      due("once", read(x, text), 2);
      for (int i = 0; i < text.length(); i++) {
        due("byte " + i, x.element(7, i), text.charAt(i));
      }
      due("twice", x.river(7), 2);
    });
  }

  // ---- promises 3 .. 13

  static void theDay() {
    edge("6 SEATS (not below how many are ABOARD: -3): what it was", () -> {
      FerryBells x = ruled("s01 100 9 1;s02 100 9 1;s01 100 9 1;", 4, 2);
      x.go(1);
      int[] answers = {-1, -3, -3, 3, 3, 4, 5, -1};
      for (int seats = 0; seats < 8; seats++) {
        due("SEATS " + seats, x.set(0, seats), answers[seats]);
      }
      due("SEATS", x.count(2), 6);
      due("back to as many", x.set(0, 3), 6);
    });
    edge("6 z (1: any): z as it is", () -> {
      FerryBells x = new FerryBells();
      int before = 1;
      for (int z : new int[] {MIN, -1, 0, 1, MAX}) {
        due("z " + z, x.set(1, z), before);
        before = z;
      }
    });
    edge("5 COMES of a SORT: what it was (0 .. 100)", () -> {
      FerryBells x = with("s01 7 1 1;s10 8 1 1;");
      int[] given = {0, 100, 101, -1, MIN, MAX, 50};
      int[] answers = {7, 0, -1, -1, -1, -1, 100};
      for (int i = 0; i < given.length; i++) {
        due("comes " + given[i], x.comes(0, given[i]), answers[i]);
      }
      due("COMES", x.sort(0, 2), 50);
      due("the other's", x.comes(1, 8), 8);
      due("of all together", x.count(5), 58);
    });
    edge("7 the RULE in SHELF d is the BOAT's, and stays so when the SHELF gets another", () -> {
      FerryBells x = new FerryBells();
      rule(x, 1, 0);
      x.keep(6, 1, 6, 0);
      due("KIND", x.boat(4), 1);
      x.row(6, 0, 0);
      due("KIND", x.boat(4), 1);
      x.go(1);
      underWay("a TURN", x, 1, 3);
    });
    edge("8 n MINUTES (1 .. 60) go by: the MINUTE", () -> {
      FerryBells x = new FerryBells();
      int[] given = {0, 1, 60, 61, -1, MIN, MAX, 2};
      int[] answers = {-1, 1, 61, -1, -1, -1, -1, 63};
      for (int i = 0; i < given.length; i++) {
        due("go " + given[i], x.go(given[i]), answers[i]);
      }
    });
    edge("8 -2: beyond 999", () -> {
      FerryBells x = new FerryBells();
      go(x, 960);
      due("40 at 960", x.go(40), -2);
      due("60 at 960", x.go(60), -2);
      due("38 at 960", x.go(38), 998);
      due("2 at 998", x.go(2), -2);
      due("1 at 998", x.go(1), 999);
      due("1 at 999", x.go(1), -2);
      due("the MINUTE", x.count(3), 999);
    });
    edge("9 told to go to a LANDING now: MINUTES; -3: it isn't AT a LANDING, is AT that", () -> {
      FerryBells x = with("m01 9;m02 1;");
      due("where it is", x.tell(0), -3);
      due("to 1", x.tell(1), 9);
      for (int l = 0; l < 3; l++) {
        due("UNDER WAY, to " + l, x.tell(l), -3);
      }
      x.go(8);
      due("one MINUTE left", x.tell(0), -3);
      x.go(1);
      due("there", x.tell(1), -3);
      due("on to 2", x.tell(2), 3);
      x.go(3);
      due("back to 0", x.tell(0), 1);
    });
    edge("10 of the BOAT: -4: UNDER WAY, -4: AT one", () -> {
      FerryBells x = with("m01 1;");
      at("AT", x, 0);
      x.tell(1);
      underWay("UNDER WAY", x, 1, 1);
      x.go(1);
      at("AT", x, 1);
    });
    edge("11 how many STAND at a LANDING (i -1; a what that is none is refused, too)", () -> {
      FerryBells x = with(ONE_TO_1);
      x.go(2);
      due("what 0", x.stand(1, -1, 0), 2);
      due("what 1", x.stand(1, -1, 1), 2);
      due("what 2", x.stand(1, -1, 2), -1);
      due("what -1", x.stand(1, -1, -1), -1);
      due("i -2", x.stand(1, -2, 0), -1);
      due("i 1", x.stand(1, 1, 1), 1);
      due("i 2: not so many", x.stand(1, 2, 1), -4);
      due("an empty one", x.stand(2, 0, 0), -4);
    });
    edge("13 so far: WAITED, WALKED, EARNED, CARRIED", () -> {
      FerryBells x = with("m01 1;s01 100 5 7;s10 0 1 1;");
      x.go(1);
      told(x, 0, 0, 0, 0);
      x.go(1);
      told(x, 1, 0, 7, 1);
      due("told -1", x.told(-1), -1);
      due("told 4", x.told(4), -1);
    });
    edge("28 all who STAND, COMES of all together, -1 for others", () -> {
      FerryBells x = with("s10 100 20 1;s20 100 20 1;s01 0 1 1;s12 100 20 1;s21 100 20 1;");
      due("COMES", x.count(5), 400);
      x.go(6);
      due("all who STAND", x.count(4), 24);
      due("-1", x.count(-1), -1);
      due("6", x.count(6), -1);
    });
  }

  // ---- Terms 3, promises 14 .. 21: days in mind

  static FerryBells kept(String text, int kind, int figure) {
    FerryBells x = with(text);
    due("keep", x.keep(0, 1, kind, figure), 0);
    return x;
  }

  static void day(FerryBells x, int landing, int minutes, int... what) {
    for (int i = 0; i < what.length; i++) {
      due("day from " + landing + ", " + minutes + " MINUTES, what " + i,
          x.day(0, landing, minutes, 5, i), what[i]);
    }
  }

  static void days() {
    edge("14 so many MINUTES (1 .. 120)", () -> {
      FerryBells x = kept("s10 100 5 1;", 0, 0);
      day(x, 0, 1, 1, 0, 0, 0);
      day(x, 0, 5, 15, 1, 0, 0);
      day(x, 0, 120, 10 + 116 * 5, 116, 0, 0);
      due("0", x.day(0, 0, 0, 5, 0), -1);
      due("121", x.day(0, 0, 121, 5, 0), -1);
    });
    edge("3 a DAY: nobody STANDS or is ABOARD, the BOAT AT a LANDING", () -> {
      FerryBells x = kept("m01 1;s01 100 9 7;s21 100 9 5;", 0, 0);
      x.go(5);
      due("some STAND", x.count(4) > 0 ? 1 : 0, 1);
      x.tell(2);
      day(x, 0, 1, 1, 0, 0, 0);
      day(x, 0, 2, 1 + 1 + 2, 0, 7, 1);
      day(x, 2, 1, 1, 0, 0, 0);
    });
    edge("3 a DAY: MINUTE 0", () -> {
      FerryBells x = kept("m01 1;s01 100 9 7;", 1, 9);
      x.go(3);
      day(x, 0, 2, 1, 0, 7, 1);
    });
    edge("3 a DAY: z is told (any)", () -> {
      FerryBells x = kept("s10 0 9 1;", 0, 0);
      for (int z : new int[] {MIN, -1, 0, 1, 77, MAX}) {
        x.comes(0, chance(z));
        due("z " + z + ": nobody comes", x.day(0, 0, 1, z, 0), 0);
        x.comes(0, chance(z) + 1);
        due("z " + z + ": one comes", x.day(0, 0, 1, z, 0), 1);
      }
    });
    edge("14 by the RULE in SHELF d, not by the BOAT's", () -> {
      FerryBells x = kept("m01 1;s01 100 9 7;", 6, 0);
      due("keep", x.keep(1, 1, 0, 0), 0);
      day(x, 0, 2, 0, 0, 0, 0);
      due("by a RULE", x.day(1, 0, 2, 5, 2), 7);
    });
    edge("15 MEAN of n (1 .. 10) DAYS: EARNED less WAITED, together", () -> {
      FerryBells x = kept("s10 100 5 1;", 0, 0);
      int[] days = {0, 1, 2, 10, 11, -1};
      int[] means = {LESS - 1, -590, -1180, -5900, LESS - 1, LESS - 1};
      for (int i = 0; i < days.length; i++) {
        due("of " + days[i], x.mean(0, 0, 120, days[i], 3), means[i]);
      }
      x = kept("m01 1;s01 100 9 50;", 0, 0);
      due("EARNED", x.mean(0, 0, 2, 1, 1), 49);
    });
    edge("15 n DAYS with z, z and 1, ..: z wraps around", () -> {
      FerryBells x = kept("s01 50 9 9;s10 40 3 8;s12 30 5 7;", 3, 0);
      for (int z : new int[] {MAX - 1, -2, 7, MIN}) {
        int sum = 0;
        for (int k = 0; k < 4; k++) {
          sum += x.day(0, 0, 60, z + k, 2) - x.day(0, 0, 60, z + k, 0);
        }
        due("from " + z, x.mean(0, 0, 60, 4, z), sum);
      }
    });
    edge("16 BEST RULE of a ROW of 1 .. 7 KINDS: the place, of several the first", () -> {
      FerryBells x = with("s01 100 5 10;");
      int[][] rows = {{4}, {0}, {4, 0}, {0, 4}, {0, 1, 2, 3, 5, 6, 4}, {4, 0, 1, 2, 3, 5, 6},
          {0, 4, 4, 0, 4}, {6, 6, 6, 6, 6, 6, 6}};
      int[] places = {0, 0, 0, 1, 6, 0, 1, 0};
      for (int i = 0; i < rows.length; i++) {
        write(x, 1, 0, rows[i]);
        due(Arrays.toString(rows[i]), x.best(1, 9, 6, 1, 1), places[i]);
      }
    });
    edge("16 the greatest MEAN, be all of them below 0", () -> {
      FerryBells x = with("s01 100 5 0;");
      write(x, 1, 0, 0, 4, 6);
      due("FULL waits less", x.best(1, 9, 6, 1, 1), 1);
      x = with("s10 100 5 0;");
      write(x, 1, 0, 0, 4, 3, 2);
      due("a BUSY one is called", x.best(1, 0, 6, 1, 1), 2);
    });
    edge("16 with a FIGURE (0 .. 9): FULL with 0 is a RULE, with 9 it waits for its SEATS", () -> {
      FerryBells x = with("s01 100 5 10;");
      write(x, 1, 0, 0, 4);
      due("FIGURE 0", x.best(1, 0, 6, 1, 1), 0);
      due("FIGURE 9", x.best(1, 9, 6, 1, 1), 1);
    });
    edge("17 WHERE: of several the least; the last LANDING, too", () -> {
      FerryBells x = kept("n4;s30 100 5 10;", 0, 0);
      due("3", x.where(0, 9, 2, 1), 3);
      x.comes(0, 0);
      due("all alike", x.where(0, 120, 10, 1), 0);
      x = kept("n4;s30 100 5 10;s20 100 5 10;", 0, 0);
      due("2 and 3 alike", x.where(0, 9, 1, 1), 2);
      x = kept("n2;s10 100 5 10;", 0, 0);
      due("1 of two", x.where(0, 9, 1, 1), 1);
    });
  }

  static void moreDays() {
    edge("18 ENOUGH: the least SEATS (1 .. 6) with which nobody WALKED; -4", () -> {
      for (int sorts = 0; sorts <= 5; sorts++) {
        FerryBells x = kept("b1;" + "s01 100 1 0;".repeat(sorts), 0, 0);
        due(sorts + " come", x.enough(0, 0, 1, 1), Math.max(1, sorts));
        due("in two MINUTES", x.enough(0, 0, 2, 1), sorts == 0 ? 1 : -4);
        due("SEATS stay", x.count(2), 1);
      }
      FerryBells x = kept("b1;s01 100 1 0;s01 100 1 0;", 4, 9);
      due("six", x.enough(0, 0, 3, 1), 6);
      due("seven", x.enough(0, 0, 4, 1), -4);
    });
    edge("19 LANTERN: if all WAITS were n more (20 at most), n (0 .. 20)", () -> {
      FerryBells x = kept("s10 100 10 1;", 0, 0);
      int[] more = {-1, 0, 1, 2, 10, 11, 20, 21};
      int[] fewer = {LESS - 1, 0, 1, 2, 2, 2, 2, LESS - 1};
      for (int i = 0; i < more.length; i++) {
        due("by " + more[i], x.lantern(0, 0, 20, 1, more[i]), fewer[i]);
      }
      x = kept("s10 100 1 1;s20 100 2 1;", 0, 0);
      due("none", x.lantern(0, 0, 3, 1, 0), 0);
      due("of all SORTS", x.lantern(0, 0, 3, 1, 1), 1 + 1);
      due("of all SORTS, by 19", x.lantern(0, 0, 3, 1, 19), 3 + 2);
    });
    edge("20 PRICE: if a SORT PAID n more (99 at most), n (0 .. 99)", () -> {
      for (int pays : new int[] {0, 1, 50, 98, 99}) {
        FerryBells x = kept("m01 1;s01 100 20 " + pays + ";s01 100 20 3;", 0, 0);
        for (int n : new int[] {0, 1, 9, 10, 49, 50, 98, 99}) {
          due(pays + " and " + n, x.price(0, 0, 2, 1, n), Math.min(99, pays + n) - pays);
          due("the other", x.price(0, 1, 2, 1, n), Math.min(99, 3 + n) - 3);
        }
        due("-1", x.price(0, 0, 2, 1, -1), LESS - 1);
        due("100", x.price(0, 0, 2, 1, 100), LESS - 1);
      }
    });
    edge("20 PRICE: and its WAITS were n by 10, cut, less (1 at least)", () -> {
      FerryBells x = kept("n2;m01 1;s01 100 2 10;", 1, 0);
      due("by 9", x.price(0, 0, 4, 1, 9), 3 * 19 - 30);
      due("by 10", x.price(0, 0, 4, 1, 10), 2 * 20 - 30);
      due("by 20: 1 at least", x.price(0, 0, 4, 1, 20), 2 * 30 - 30);
      due("by 99: 1 at least", x.price(0, 0, 4, 1, 99), 2 * 99 - 30);
      x = kept("n2;m01 1;s01 100 3 10;", 1, 0);
      due("by 19", x.price(0, 0, 4, 1, 19), 3 * 29 - 30);
      due("by 20", x.price(0, 0, 4, 1, 20), 2 * 30 - 30);
    });
    edge("20 PRICE of a DAY from LANDING 0", () -> {
      FerryBells x = kept("s10 100 20 1;s01 100 20 1;", 0, 0);
      x.tell(1);
      x.go(3);
      due("from 1", x.price(0, 0, 4, 1, 5), 0);
      due("from 0", x.price(0, 1, 4, 1, 5), 5);
    });
    edge("20 PRICE: its WAITS, no other SORT's", () -> {
      FerryBells x = kept("m01 1;s01 100 1 10;s01 100 20 10;", 0, 0);
      due("the other's WAITS", x.price(0, 1, 1, 1, 99), 0);
    });
    edge("21 SON: each step for the one BOAT, then for the other: how much less is WAITED", () -> {
      FerryBells x = kept("s01 100 20 1;s10 100 20 1;", 0, 0);
      due("both go at once", x.son(0, 0, 1, 1, 1), 1);
      due("the other way round", x.son(0, 1, 0, 1, 1), 1);
      x = kept("m01 1;s12 100 20 1;", 2, 0);
      due("who is ABOARD the other calls the one no more", x.son(0, 0, 1, 2, 1), 1 - 1);
      due("but the next does", x.son(0, 0, 1, 3, 1), 1 + 1 - 1);
    });
    edge("21 SON: the second BOAT sails and comes again as the one does", () -> {
      FerryBells x = kept("m01 1;s01 100 20 1;s10 100 20 1;", 0, 0);
      due("the other from 0", x.son(0, 2, 0, 4, 1), 2 + 4 + 6 + 8 - 1 - 1 - 1 - 1);
      due("the one from 0", x.son(0, 0, 2, 4, 1), 0);
    });
    edge("21 another LANDING (one twice, too)", () -> {
      FerryBells x = kept("n4;", 0, 0);
      for (int a = 0; a < 4; a++) {
        for (int b = 0; b < 4; b++) {
          due(a + " and " + b, x.son(0, a, b, 120, 1), a == b ? LESS - 1 : 0);
        }
      }
    });
    edge("DAYS are in mind: behind each all is as it was", () -> {
      FerryBells x = kept("s01 100 5 10;s10 100 2 3;", 3, 0);
      x.go(4);
      int[] before = {x.count(3), x.count(4), x.boat(0), x.boat(1), x.boat(2), x.boat(3), x.boat(4),
          x.told(0), x.told(1), x.told(2), x.told(3), x.sort(0, 3), x.sort(0, 4), x.count(2)};
      write(x, 1, 0, 0, 1, 2, 3, 4, 5, 6);
      x.day(0, 2, 120, 1, 0);
      x.mean(0, 2, 120, 10, 1);
      x.best(1, 4, 120, 10, 1);
      x.where(0, 120, 10, 1);
      x.enough(0, 2, 120, 1);
      x.lantern(0, 2, 120, 1, 20);
      x.price(0, 0, 120, 1, 99);
      x.son(0, 2, 1, 120, 1);
      x.goings(77, 120);
      x.bestGoings(60);
      x.judge(0, 1);
      int[] behind = {x.count(3), x.count(4), x.boat(0), x.boat(1), x.boat(2), x.boat(3), x.boat(4),
          x.told(0), x.told(1), x.told(2), x.told(3), x.sort(0, 3), x.sort(0, 4), x.count(2)};
      due(Arrays.toString(before) + " to " + Arrays.toString(behind),
          Arrays.equals(before, behind) ? 1 : 0, 1);
      FerryBells y = kept("s01 100 5 10;s10 100 2 3;", 3, 0);
      y.go(4);
      due("z", x.set(1, 0), y.set(1, 0));
    });
    edge("behind SON there is one BOAT again", () -> {
      FerryBells x = kept("b1;s01 100 20 1;s01 100 20 1;", 0, 0);
      x.son(0, 1, 0, 3, 1);
      day(x, 0, 2, 1 + 3, 0, 0, 0);
      x.son(0, 1, 0, 3, 1);
      due("ENOUGH", x.enough(0, 0, 2, 1), 1);
      x.son(0, 1, 0, 3, 1);
      due("GOINGS", x.goings(2, 1), -1);
      x.son(0, 1, 0, 3, 1);
      due("BEST GOINGS", x.bestGoings(4), 2);
      write(x, 1, 0, 1, 3);
      x.son(0, 1, 0, 3, 1);
      due("JUDGED", x.judge(0, 1), -4);
      x.son(0, 1, 0, 3, 1);
      x.go(2);
      told(x, 1 + 3, 0, 0, 0);
    });
  }

  // ---- promises 22 .. 25: from now on

  static void goings() {
    edge("22 told by digits to the base 5 (the first the lowest)", () -> {
      FerryBells x = with(NEAR + "s12 100 20 50;");
      due("1, 2", x.goings(2 + 3 * 5, 3), 100 - 1 - 1);
      due("2, 1", x.goings(3 + 2 * 5, 3), -1 - 2);
      due("1, 2, 0, 1, then by its RULE to 2", x.goings(2 + 3 * 5 + 25 + 2 * 125, 6),
          100 + 150 - 1 - 1 - 2 - 1);
      due("0 last: none, and by its RULE", x.goings(2 + 3 * 5 + 25, 6), 100 - 1 - 1 - 2 - 3 - 4);
    });
    edge("22 0 none, else the LANDING of that number less 1; here, or isn't there: none", () -> {
      FerryBells x = ruled("s01 100 5 10;", 0, 0);
      due("0: none", x.goings(0, 5), -3);
      due("1: LANDING 0 is here", x.goings(1, 5), -3);
      due("4: LANDING 3 isn't there", x.goings(4, 5), -3);
      due("2: LANDING 1", x.goings(2, 4), 10 - 6);
      due("3: LANDING 2", x.goings(3, 4), -6);
      x = with("n4;m03 1;s03 100 5 10;");
      due("4: LANDING 3 is there", x.goings(4, 2), 10 - 1);
      x = with("n2;m01 1;s01 100 5 10;");
      due("3: LANDING 2 isn't there", x.goings(3, 2), 0);
      due("2: LANDING 1", x.goings(2, 2), 10 - 1);
    });
    edge("22 the next four times, then by its RULE", () -> {
      FerryBells x = with("s01 100 5 10;");
      due("none four times", x.goings(0, 7), -1 - 2 - 3 - 4);
      due("the RULE goes the fifth time", x.goings(0, 8), 30 - 1 - 2 - 3 - 4 - 5);
      due("the fourth time", x.goings(2 * 125, 7), 30 - 1 - 2 - 3 - 4);
      due("the third time", x.goings(2 * 25, 6), 30 - 1 - 2 - 3);
      due("the fourth time isn't reached", x.goings(2 * 125, 3), 0);
    });
    edge("22 times that it would be asked: UNDER WAY it isn't", () -> {
      FerryBells x = with("s01 100 9 10;");
      x.tell(1);
      due("three MINUTES off", x.goings(1 * 5, 3), -1 - 2 - 3);
      due("none, then to 0", x.goings(1 * 5, 7), -28 + 3);
      due("to 0 at once", x.goings(1, 6), -1 - 2 - 3 - 4 - 5 - 3);
    });
    edge("22 GOINGS 0 .. 624 in 1 .. 120 MINUTES", () -> {
      FerryBells x = with("s10 100 20 0;");
      due("624 are all LANDING 3", x.goings(624, 3), -6);
      due("625", x.goings(625, 3), LESS - 1);
      due("-1", x.goings(-1, 3), LESS - 1);
      due("1 MINUTE", x.goings(0, 1), -1);
      due("0 MINUTES", x.goings(0, 0), LESS - 1);
      due("121 MINUTES", x.goings(0, 121), LESS - 1);
      x = with("s10 100 5 0;");
      due("120 MINUTES", x.goings(0, 120), -590);
    });
    edge("22 EARNED less WAITED from now on, not so far", () -> {
      FerryBells x = with("m01 1;s01 100 5 10;");
      x.go(3);
      told(x, 1 + 2, 0, 10, 1);
      due("the next MINUTE", x.goings(0, 1), -3);
      due("to 0, and back", x.goings(1 + 2 * 5, 3), 30 - 3 - 1 - 2);
    });
    edge("22 in mind, also where the DAY's MINUTES end", () -> {
      FerryBells x = with("s10 100 20 0;");
      x.go(4);
      x.comes(0, 0);
      go(x, 960);
      x.go(35);
      x.comes(0, 100);
      due("the MINUTE", x.count(3), 999);
      due("goings", x.goings(0, 2), -3);
      due("the MINUTE", x.count(3), 999);
      due("a DAY", x.mean(3, 0, 1, 1, 1), LESS - 11);
    });
    edge("23 BEST GOINGS (0 .. 624): the greatest; of several the least", () -> {
      String[] texts = {"s01 100 5 10;", "n2;m01 1;s01 60 5 9;s10 70 3 8;", "n4;m03 1;s03 90 4 9;",
          "n4;s30 80 20 99;s03 80 20 99;", NEAR + "s12 50 5 20;s20 50 5 30;s01 50 5 40;"};
      for (int i = 0; i < texts.length; i++) {
        for (int minutes : new int[] {1, 2, 3, 5, 8, 13, 30, 120}) {
          due(texts[i] + " in " + minutes, gone(texts[i], i).bestGoings(minutes),
              firstOfTheGreatest(texts[i], i, minutes));
        }
      }
    });
    edge("23 BEST GOINGS: the last of four digits counts", () -> {
      FerryBells x = with(NEAR + "s12 100 20 50;");
      due("1, 2, 1, 2", x.bestGoings(5), 2 + 3 * 5 + 2 * 25 + 3 * 125);
      due("1, 2 in three MINUTES", x.bestGoings(3), 2 + 3 * 5);
    });
    edge("23 of several the least: nothing to win", () -> {
      due("no SORTS", new FerryBells().bestGoings(120), 0);
      due("nobody can be brought in time", with("s10 100 9 9;").bestGoings(1), 0);
      due("0", new FerryBells().bestGoings(0), -1);
      due("121", new FerryBells().bestGoings(121), -1);
    });
  }

  /** A RULE that is called, and a day that has begun. */
  static FerryBells gone(String text, int minutes) {
    FerryBells x = ruled(text, 3, 1);
    go(x, minutes);
    return x;
  }

  /** With an object for each hundred, as one is used for at most 512 calls. */
  static int firstOfTheGreatest(String text, int gone, int minutes) {
    FerryBells x = gone(text, gone);
    int best = 0;
    int most = x.goings(0, minutes);
    for (int told = 1; told < 625; told++) {
      x = told % 100 == 0 ? gone(text, gone) : x;
      int gain = x.goings(told, minutes);
      if (gain > most) {
        most = gain;
        best = told;
      }
    }
    return best;
  }

  static void nobodyAndJudge() {
    edge("24 in m MINUTES (0 .. 4), in least terms", () -> {
      FerryBells x = with("s10 50 1 1;s01 0 1 1;s20 100 1 1;s21 30 1 1;");
      for (int m = 0; m <= 4; m++) {
        due("50 in " + m, x.nobody(1, m, 0), 1);
        due("50 in " + m, x.nobody(1, m, 1), 1 << m);
        due("COMES 0 in " + m, x.nobody(0, m, 0) * 10 + x.nobody(0, m, 1), 11);
        due("COMES 100 in " + m, x.nobody(2, m, 0) * 10 + x.nobody(2, m, 1), m == 0 ? 11 : 1);
      }
      due("5", x.nobody(1, 5, 0), FAR - 1);
      due("-1", x.nobody(1, -1, 0), FAR - 1);
    });
    edge("24 in least terms: the dearest", () -> {
      FerryBells x = with("s10 1 1 1;s12 1 1 1;");
      due("above", x.nobody(1, 4, 0), 9227446944279201L);
      due("below", x.nobody(1, 4, 1), 10000000000000000L);
      x.comes(0, 99);
      x.comes(1, 99);
      due("above", x.nobody(1, 4, 0), 1);
      due("below", x.nobody(1, 4, 1), 10000000000000000L);
      FerryBells y = with("s01 99 1 1;s02 99 1 1;s21 1 1 1;");
      due("from 0, above", y.nobody(0, 4, 0), 1);
      due("from 0, below", y.nobody(0, 4, 1), 10000000000000000L);
      due("from 2, above", y.nobody(2, 4, 0), 96059601);
      due("from 2, below", y.nobody(2, 4, 1), 100000000);
      x.comes(0, 36);
      x.comes(1, 84);
      due("1024 three times, less twelve 2", x.nobody(1, 3, 0), 1 << 18);
      due("twelve 5", x.nobody(1, 3, 1), 244140625);
    });
    edge("24 -3, if m times the SORTS that come there is above 8", () -> {
      for (int sorts = 0; sorts <= 5; sorts++) {
        FerryBells x = with("b3;" + "s10 50 1 1;".repeat(sorts) + "s01 50 1 1;".repeat(5 - sorts));
        for (int m = 0; m <= 4; m++) {
          boolean good = m * sorts <= 8;
          due(sorts + " SORTS, m " + m, x.nobody(1, m, 0), good ? 1 : FAR - 3);
          due(sorts + " SORTS, m " + m, x.nobody(1, m, 1), good ? 1 << (m * sorts) : FAR - 3);
        }
      }
    });
    edge("25 the place of the first that is wrong; -4", () -> {
      for (int sort = 0; sort < 3; sort++) {
        FerryBells x = with("s10 100 20 1;");
        int[] right = {1, 2, 3, 4, 5, 6, 7, 8, 9, 10, 11, 12, 12};
        write(x, 0, sort, right);
        due("all right", x.judge(1, 0), -4);
        for (int i = right.length - 1; i >= 0; i--) {
          x.put(0, i, right[i] + 1);
          due("wrong at " + i, x.judge(1, 0), i);
          x.put(0, i, -right[i]);
          due("wrong below 0 at " + i, x.judge(1, 0), i);
        }
      }
    });
    edge("25 behind 1, 2, .. MINUTES from now on: an empty ROW, a full one", () -> {
      FerryBells x = new FerryBells();
      x.row(0, 0, 0);
      due("empty", x.judge(0, 0), -4);
      x.row(0, 0, 100);
      due("a hundred 0", x.judge(2, 0), -4);
      x.put(0, 99, 1);
      due("the last is wrong", x.judge(2, 0), 99);
      x = with("s10 100 20 1;");
      x.go(3);
      write(x, 0, 1, 4, 5, 6);
      due("from now on", x.judge(1, 0), -4);
      due("the MINUTE", x.count(3), 3);
    });
    edge("25 (the least number of the SORT is skipped)", () -> {
      int[] least = {-128, -32768, MIN};
      for (int sort = 0; sort < 3; sort++) {
        FerryBells x = with("s10 100 20 1;");
        write(x, 0, sort, least[sort], 2, least[sort]);
        due("skipped", x.judge(1, 0), -4);
        x.put(0, 1, 1);
        due("its MINUTE goes by", x.judge(1, 0), 1);
        x.put(0, 0, least[sort] + 1);
        due("one more isn't skipped", x.judge(1, 0), 0);
        if (sort > 0) {
          x.put(0, 0, least[sort - 1]);
          due("another SORT's least isn't", x.judge(1, 0), 0);
        }
      }
    });
  }

  // ---- promises 26, 27: the IMAGE

  static void images() {
    edge("27 -3: there is none", () -> {
      FerryBells x = new FerryBells();
      due("restore", x.restore(), -3);
      due("image", x.image(), 0);
      due("restore", x.restore(), 0);
    });
    edge("26 THE IMAGE is taken: the MINUTE; the last one taken is RESTORED, again and again", () -> {
      FerryBells x = with("s10 100 20 1;");
      x.go(2);
      due("image", x.image(), 2);
      x.go(3);
      due("image", x.image(), 5);
      x.go(4);
      for (int i = 0; i < 3; i++) {
        due("restore", x.restore(), 5);
        due("the MINUTE", x.count(3), 5);
        stand(x, 1, 0, 0, 0, 0, 0);
        since(x, 1, 5, 4, 3, 2, 1);
        x.go(1);
      }
    });
    edge("27 RESTORED all is as it was then: the river, z, the BOAT, its RULE, who STANDS", () -> {
      FerryBells x = ruled("m01 2;s01 100 9 5;s01 100 3 5;", 4, 1);
      x.go(2);
      x.image();
      int z = x.set(1, 5);
      x.comes(0, 1);
      x.comes(1, 2);
      due("more", read(x, "b6;m01 9;s12 9 9 9;"), 3);
      rule(x, 6, 2);
      x.go(20);
      due("restore", x.restore(), 2);
      due("z", x.set(1, z), z);
      due("SORTS", x.count(1), 2);
      due("SEATS", x.count(2), 3);
      due("COMES", x.count(5), 200);
      due("MINUTES", x.minutes(0, 1), 2);
      due("KIND", x.boat(4), 4);
      underWay("the BOAT", x, 1, 1);
      aboard(x, 0, 1);
      stand(x, 0, 0, 1);
      told(x, 2, 0, 0, 0);
      x.go(1);
      told(x, 2 + 4, 0, 10, 2);
    });
    edge("27 RESTORED all is as it was then: LANDINGS, at the MINUTE 999 too", () -> {
      FerryBells x = new FerryBells();
      x.image();
      due("n4", read(x, "n4;"), 1);
      x.restore();
      due("LANDINGS", x.count(0), 3);
      go(x, 960);
      x.go(39);
      due("restore", x.restore(), 0);
      due("go", x.go(60), 60);
      go(x, 900);
      x.go(39);
      due("image", x.image(), 999);
      due("restore", x.restore(), 999);
      due("go", x.go(1), -2);
    });
    edge("when THE IMAGE is RESTORED, SHELVES stay as they are", () -> {
      FerryBells x = new FerryBells();
      write(x, 0, 2, 1, 2);
      x.keep(1, 1, 0, 3);
      x.image();
      x.put(0, 1, 9);
      x.keep(1, 1, 3, 4);
      x.keep(2, 1, 1, 5);
      x.restore();
      due("the ROW", x.element(0, 1), 9);
      due("the RULE", x.toss(1), 104);
      due("another", x.toss(2), 5);
    });
  }

  // ---- promises 29 .. 35: shelves

  static void rows() {
    edge("30 a ROW has 0 .. 100 elements, 0 at first", () -> {
      FerryBells x = new FerryBells();
      for (int sort = 0; sort < 3; sort++) {
        due("101", x.row(0, sort, 101), -1);
        due("-1", x.row(0, sort, -1), -14);
        due("100", x.row(0, sort, 100), 0);
        for (int i = 0; i < 100; i++) {
          due("at first " + i, x.element(0, i), 0);
        }
        due("put 99", x.put(0, 99, 1), 0);
        due("put 0", x.put(0, 0, 1), 0);
        due("put 100", x.put(0, 100, 1), -13);
        due("2 anew", x.row(0, sort, 2), 0);
        due("0 again", x.element(0, 0), 0);
        due("100 anew", x.row(0, sort, 100), 0);
        due("0 again", x.element(0, 99), 0);
        due("0", x.row(0, sort, 0), 0);
        due("put 0", x.put(0, 0, 1), -13);
      }
    });
    edge("31 what is put in keeps its lowest bits", () -> {
      FerryBells x = new FerryBells();
      int[] given = {0, 1, -1, 127, 128, -128, -129, 255, 256, 32767, 32768, -32768, -32769, 65535,
          65536, MIN, MAX};
      int[] bytes = {0, 1, -1, 127, -128, -128, 127, -1, 0, -1, 0, 0, -1, -1, 0, 0, -1};
      int[] shorts = {0, 1, -1, 127, 128, -128, -129, 255, 256, 32767, -32768, -32768, 32767, -1, 0,
          0, -1};
      int[][] kept = {bytes, shorts, given};
      for (int sort = 0; sort < 3; sort++) {
        write(x, 0, sort, given);
        for (int i = 0; i < given.length; i++) {
          due(given[i] + " of SORT " + sort, x.element(0, i), kept[sort][i]);
        }
      }
    });
    edge("31 element i of the ROW, and no other's", () -> {
      FerryBells x = new FerryBells();
      for (int d = 0; d < 8; d++) {
        write(x, d, 2, 10 * d, 10 * d + 1, 10 * d + 2);
      }
      for (int d = 0; d < 8; d++) {
        for (int i = 0; i < 3; i++) {
          due(d + ", " + i, x.element(d, i), 10 * d + i);
        }
      }
    });
    edge("29 nothing: the others do not matter; 30 a ROW in place of a RULE, and back", () -> {
      FerryBells x = new FerryBells();
      write(x, 0, 0, 1, 2, 3);
      due("nothing", x.keep(0, 0, MIN, MAX), 0);
      due("put", x.put(0, 0, 1), -11);
      due("care", x.care(0), LESS - 11);
      due("a RULE", x.keep(0, 1, 0, 9), 0);
      due("put", x.put(0, 0, 1), -12);
      due("a ROW", x.row(0, 1, 1), 0);
      due("care", x.care(0), LESS - 12);
      due("toss", x.toss(0), -12);
      due("a RULE", x.keep(0, 1, 0, 9), 0);
      due("put", x.put(0, 0, 1), -12);
      due("toss", x.toss(0), 9);
    });
    edge("33 n elements from i on come to that from j on: n", () -> {
      for (int sort = 0; sort < 3; sort++) {
        FerryBells x = new FerryBells();
        write(x, 0, sort, 1, 2, 3, 4);
        write(x, 1, sort, 5, 6, 7);
        due("all", x.copy(1, 0, 0, 0, 3), 3);
        row(x, 0, 5, 6, 7, 4);
        due("the last", x.copy(0, 3, 1, 2, 1), 1);
        row(x, 1, 5, 6, 4);
        due("none", x.copy(0, 0, 1, 0, 0), 0);
        row(x, 1, 5, 6, 4);
        row(x, 0, 5, 6, 7, 4);
      }
    });
    edge("33 within one SHELF: as they were, to either side", () -> {
      FerryBells x = new FerryBells();
      write(x, 0, 0, 1, 2, 3, 4, 5);
      due("up", x.copy(0, 0, 0, 1, 4), 4);
      row(x, 0, 1, 1, 2, 3, 4);
      due("down", x.copy(0, 1, 0, 0, 4), 4);
      row(x, 0, 1, 2, 3, 4, 4);
      due("on itself", x.copy(0, 0, 0, 0, 5), 5);
      row(x, 0, 1, 2, 3, 4, 4);
    });
    edge("33 -13 a place that isn't there (n below 0, too)", () -> {
      FerryBells x = new FerryBells();
      write(x, 0, 0, 1, 2, 3, 4);
      write(x, 1, 0, 5, 6, 7);
      int[][] none = {{0, 0, 4}, {3, 0, 2}, {4, 0, 1}, {1, 0, 4}, {0, 1, 3}, {0, 3, 1}, {0, 2, 2},
          {-1, 0, 1}, {0, -1, 1}, {0, 0, -1}, {MAX, 0, 1}, {0, MAX, 1}, {0, 0, MAX}, {1, 1, MAX},
          {MAX, MAX, MAX}, {MIN, 0, 1}, {0, MIN, 1}, {0, 0, MIN}, {MIN, MIN, MIN}, {1, 0, MIN},
          {MIN, 0, MAX}, {MAX, 0, MIN}, {5, 0, -1}};
      for (int[] a : none) {
        due(Arrays.toString(a), x.copy(0, a[0], 1, a[1], a[2]), -13);
      }
      row(x, 0, 1, 2, 3, 4);
      row(x, 1, 5, 6, 7);
    });
    edge("33 what is copied of a full ROW", () -> {
      FerryBells x = new FerryBells();
      x.row(0, 2, 100);
      x.row(1, 2, 100);
      x.put(0, 0, MIN);
      x.put(0, 99, MAX);
      due("100", x.copy(0, 0, 1, 0, 100), 100);
      due("the first", x.element(1, 0), MIN);
      due("the last", x.element(1, 99), MAX);
      due("101", x.copy(0, 0, 1, 0, 101), -13);
    });
  }

  static void row(FerryBells x, int d, int... values) {
    for (int i = 0; i < values.length; i++) {
      due("element " + i, x.element(d, i), values[i]);
    }
  }

  static void caresAndTosses() {
    edge("34 CARE of each KIND with FIGURES 0 .. 9", () -> {
      int[][] cares = {{5, 5, 5, 5, 5, 5, 5, 5, 5, 5}, {5, 6, 7, 8, 9, 10, 11, 12, 13, 14},
          {10, 10, 10, 10, 10, 10, 10, 10, 10, 10}, {11, 11, 11, 11, 11, 11, 11, 11, 11, 11},
          {5, 4, 3, 2, 1, 0, -1, -2, -3, -4}, {11, 12, 13, 14, 15, 16, 17, 18, 19, 20},
          {2, 3, 3, 4, 4, 5, 5, 6, 6, 7}};
      FerryBells x = new FerryBells();
      for (int kind = 0; kind < 7; kind++) {
        for (int figure = 0; figure <= 9; figure++) {
          x.keep(0, 1, kind, figure);
          due(kind + " with " + figure, x.care(0), cares[kind][figure]);
        }
      }
    });
    edge("35 the FAILURE: -15: FULL ones, and any with FIGURE 0, have none", () -> {
      int[] toldOnes = {-15, 203, 203, 204, 204, 205, 205, 206, 206, 207};
      FerryBells x = new FerryBells();
      for (int kind = 0; kind < 7; kind++) {
        for (int figure = 0; figure <= 9; figure++) {
          x.keep(0, 1, kind, figure);
          int due = figure;
          if (kind == 3 || kind == 5) {
            due = 100 + figure;
          } else if (kind == 6) {
            due = toldOnes[figure];
          }
          due(kind + " with " + figure, x.toss(0), kind == 4 || figure == 0 ? -15 : due);
          due("the RULE stays", x.rule(0), kind);
        }
      }
    });
  }

  public static void main(String[] args) {
    atFirst();
    riverBounds();
    coming();
    sailing();
    walking();
    rules();
    moreRules();
    texts();
    texts2();
    theDay();
    days();
    moreDays();
    goings();
    nobodyAndJudge();
    images();
    rows();
    caresAndTosses();
    System.out.println(wrong == 0 ? edges + " boundary cases hold" : wrong + " answers are not as due");
    if (wrong != 0) {
      System.exit(1);
    }
  }
}
