/** Each promise by hand: ordinary inputs, the edges that the document names, wrong inputs. */
public final class FerryBellsPromises {

  static int wrong = 0;

  static void due(String what, long got, long want) {
    if (got != want) {
      wrong++;
      System.out.println(what + " answered " + got + ", due is " + want);
    }
  }

  static final int LESS = -1000000000;
  static final long FAR = -4000000000000000000L;

  /** One comes to 0 every MINUTE, waits 5 and pays 10; the way to 1 takes 3 MINUTES. */
  static final String STEADY = "s01 100 5 10;";

  static void write(FerryBells x, int d, int sort, int... values) {
    due("row", x.row(d, sort, values.length), 0);
    for (int i = 0; i < values.length; i++) {
      due("put", x.put(d, i, values[i]), 0);
    }
  }

  static int read(FerryBells x, String text) {
    write(x, 7, 0, text.chars().toArray());
    return x.river(7);
  }

  static FerryBells with(String text) {
    FerryBells x = new FerryBells();
    int statements = (int) text.chars().filter(c -> c == ';').count();
    due("river of " + text, read(x, text), statements);
    return x;
  }

  static FerryBells ruled(String text, int kind, int figure) {
    FerryBells x = with(text);
    due("keep", x.keep(0, 1, kind, figure), 0);
    due("rule", x.rule(0), kind);
    return x;
  }

  static void told(FerryBells x, int waited, int walked, int earned, int carried) {
    due("WAITED", x.told(0), waited);
    due("WALKED", x.told(1), walked);
    due("EARNED", x.told(2), earned);
    due("CARRIED", x.told(3), carried);
  }

  static String thrown(FerryBells x, int d, int i) {
    try {
      x.element(d, i);
      return "nothing";
    } catch (RuntimeException e) {
      return e.getClass().getSimpleName();
    }
  }

  static void same(String what, String got, String want) {
    due(what + ": " + got + " for " + want, got.equals(want) ? 1 : 0, 1);
  }

  // ---- 1

  static void newObject() {
    FerryBells x = new FerryBells();
    int[] counts = {3, 0, 3, 0, 0, 0, -1};
    for (int i = 0; i < counts.length; i++) {
      due("1 count " + i, x.count(i), counts[i]);
    }
    due("1 minutes", x.minutes(0, 2), 3);
    due("1 boat at", x.boat(0), 0);
    due("1 boat's rule", x.boat(4), 0);
    due("1 z", x.set(1, 1), 1);
    due("1 image", x.restore(), -3);
    due("1 shelf", x.care(0), LESS - 11);
    told(x, 0, 0, 0, 0);
  }

  // ---- 2 .. 6

  static void rivers() {
    FerryBells x = new FerryBells();
    due("2 shelf -1", x.river(-1), -1);
    due("2 shelf 8", x.river(8), -1);
    due("2 nothing", x.river(0), -11);
    x.keep(0, 1, 0, 0);
    due("2 a rule", x.river(0), -12);
    x.row(0, 1, 3);
    due("2 shorts", x.river(0), -12);
    due("2 no statement", read(x, ""), -1000);
    Object[][] faults = {
      {"x", -1000}, {"n", -1001}, {"n3", -1002}, {"n;", -1001}, {"n33;", -1002}, {"n3;;", -1003},
      {"n3; ", -1003}, {"m0", -1002}, {"m01", -1003}, {"m01,", -1003}, {"m01 ;", -1004},
      {"m01 55;", -1005}, {"b3", -1002}, {"b-", -1001}, {"s01 1 1;", -1007}, {"s01 1 1 1", -1009},
      {"s01 00 1 1;", -1005}, {"s01 1000 1 1;", -1007}, {"s01  1 1;", -1004},
      {"s01 1 1 1 ;", -1009}, {"n3\u00bb", -1002},
      {"n9;q", -1003}, {"n1;", -2000}, {"n5;", -2000}, {"m00 1;", -2000}, {"m03 1;", -2000},
      {"m30 1;", -2000}, {"m01 0;", -2000}, {"s11 1 1 1;", -2000}, {"s03 1 1 1;", -2000},
      {"s30 1 1 1;", -2000}, {"s01 101 1 1;", -2000}, {"s01 1 0 1;", -2000},
      {"s01 1 21 1;", -2000}, {"s01 1 1 100;", -2000}, {"b0;", -2000}, {"b7;", -2000},
      {"n4;m23 2;n3;m23 2;", -2012}, {"n4;s23 1 1 1;n3;", -2013}, {"b6;b5;b9;n9;", -2006},
    };
    for (Object[] f : faults) {
      x = new FerryBells();
      due("2 " + f[0], read(x, (String) f[0]), (Integer) f[1]);
      due("2 nothing came of " + f[0], x.count(0) * 100 + x.count(1) * 10 + x.count(2), 303);
    }
    x = new FerryBells();
    due("2 a long one", read(x, "n4;m03 9;s03 100 20 99;s30 0 1 0;b6;"), 5);
    due("2 landings", x.count(0), 4);
    due("2 sorts", x.count(1), 2);
    due("2 seats", x.count(2), 6);
    due("2 text stays", x.element(7, 0), 'n');
    due("2 three sorts more", read(x, "s01 1 1 1;s02 1 1 1;s12 1 1 1;"), 3);
    due("2 no room", read(x, "b1;s01 1 1 1;"), -2003);
    due("2 b1 did not come", x.count(2), 6);

    x = with(STEADY);
    x.go(1);
    due("2 n while aboard", read(x, "n3;"), -2000);
    x.go(1);
    due("2 n while they stand", read(x, "n4;"), -2000);
    x = with(STEADY);
    x.go(1);
    x.comes(0, 0);
    due("2 b below aboard is none", read(x, "b1;"), 1);
    x.go(3);
    due("2 nobody there", x.count(4) + x.boat(3), 0);
    due("2 n4", read(x, "n4;"), 1);
    x.tell(3);
    due("2 the boat goes to 3", read(x, "n3;"), -2000);
    x.go(3);
    due("2 the boat is at 3", read(x, "n3;"), -2000);
    x = ruled("s01 100 5 1;s02 100 5 1;", 1, 9);
    x.go(1);
    due("2 two aboard", read(x, "b1;"), -2000);
    due("2 two seats do", read(x, "b2;"), 1);

    x = with("m02 7;");
    due("3", x.minutes(0, 2), 7);
    due("3 both ways", x.minutes(2, 0), 7);
    due("3 twice", x.minutes(1, 1), -1);
    due("3 not there", x.minutes(0, 3), -1);
    due("3 below", x.minutes(-1, 0), -1);

    x = with("s21 30 4 55;");
    int[] sort = {2, 1, 30, 4, 55};
    for (int i = 0; i < 5; i++) {
      due("4 what " + i, x.sort(0, i), sort[i]);
    }
    due("4 no what", x.sort(0, 5), -1);
    due("4 no sort", x.sort(1, 0), -1);
    due("4 below", x.sort(-1, 0), -1);

    due("5", x.comes(0, 100), 30);
    due("5 again", x.comes(0, 0), 100);
    due("5 above", x.comes(0, 101), -1);
    due("5 below", x.comes(0, -1), -1);
    due("5 no sort", x.comes(1, 1), -1);
    due("5 stays", x.sort(0, 2), 0);

    x = ruled("s01 100 5 1;s02 100 5 1;", 1, 9);
    x.go(1);
    due("6 two aboard", x.set(0, 1), -3);
    due("6 seats", x.set(0, 2), 3);
    due("6 seats again", x.set(0, 6), 2);
    due("6 none", x.set(0, 0), -1);
    due("6 seven", x.set(0, 7), -1);
    due("6 no what", x.set(2, 1), -1);
    x = new FerryBells();
    due("6 z", x.set(1, -5), 1);
    due("6 z as it is", x.set(1, 0), -5);
  }

  // ---- 7 .. 13

  static void theDay() {
    FerryBells x = new FerryBells();
    due("7 no shelf", x.rule(8), -1);
    due("7 nothing", x.rule(0), -11);
    x.row(0, 0, 1);
    due("7 a row", x.rule(0), -12);
    x.keep(0, 1, 4, 2);
    due("7", x.rule(0), 4);
    due("7 the boat's", x.boat(4), 4);
    x.keep(0, 0, 0, 0);
    due("7 stays the boat's", x.boat(4), 4);

    due("8 none", x.go(0), -1);
    due("8 too many", x.go(61), -1);
    for (int i = 1; i <= 16; i++) {
      due("8", x.go(60), 60 * i);
    }
    due("8 beyond", x.go(40), -2);
    due("8 to the last", x.go(39), 999);
    due("8 out of range goes ahead", x.go(61), -1);
    due("8 at the end", x.go(1), -2);
    due("8 the minute stays", x.count(3), 999);

    x = with(STEADY);
    x.go(6);
    told(x, 15, 1, 10, 1);
    due("11 how many", x.stand(0, -1, 0), 4);
    due("11 who", x.stand(0, 0, 0), 0);
    due("11 since", x.stand(0, 0, 1), 4);
    due("11 the last since", x.stand(0, 3, 1), 1);
    due("11 not so many", x.stand(0, 4, 1), -4);
    due("11 far beyond", x.stand(0, 100, 1), -4);
    due("11 below", x.stand(0, -2, 0), -1);
    due("11 no what", x.stand(0, -1, 2), -1);
    due("11 what below", x.stand(0, 0, -1), -1);
    due("11 no landing", x.stand(3, 0, 0), -1);
    due("10 at", x.boat(0), 1);
    due("10 to", x.boat(1), -4);
    due("10 left", x.boat(2), 0);
    due("10 aboard", x.boat(3), 0);
    due("10 no what", x.boat(5), -1);
    due("10 below", x.boat(-1), -1);
    due("12 nobody", x.aboard(0), -4);
    due("12 below", x.aboard(-1), -1);
    due("9 is there", x.tell(1), -3);
    due("9 no landing", x.tell(3), -1);
    due("9", x.tell(0), 3);
    due("9 under way", x.tell(2), -3);
    due("9 under way, no landing", x.tell(-1), -1);
    due("10 under way", x.boat(0), -4);
    due("10 goes to", x.boat(1), 0);
    due("10 three left", x.boat(2), 3);
    x.go(3);
    due("12 three seats", x.boat(3), 3);
    due("12", x.aboard(2), 0);
    due("12 beyond", x.aboard(3), -4);
    due("13 no what", x.told(4), -1);
    due("13 below", x.told(-1), -1);

    x = with("s10 100 20 1;");
    x.go(12);
    told(x, 78, 0, 0, 0);
    x.go(2);
    told(x, 102, 2, 0, 0);
    due("11 still twelve", x.stand(1, -1, 0), 12);

    x = with("s01 35 9 1;s02 35 9 1;");
    due("z of a sort each", x.go(1), 1);
    due("z went on twice", x.set(1, 0), (1103527590 * 1103515245) + 12345);
  }

  static void kinds() {
    goes("RULE", STEADY, 0, 0, 1, 1);
    goes("RULE, nobody", "s10 100 5 1;", 0, 0, 3, -4);
    goes("TURN", "s02 100 5 1;", 1, 3, 1, 1);
    FerryBells x = ruled(STEADY, 1, 3);
    x.go(4);
    due("TURN: no multiple at 3", x.boat(0), 1);
    x.go(1);
    due("TURN at 4", x.boat(1), 2);
    x.go(4);
    due("TURN behind the last 0", x.boat(1), 0);

    lies("LIE", 2, 2, 3);
    lies("LIE", 2, 3, 4);
    goes("LIE's least", "s10 100 9 1;s20 100 9 1;", 2, 0, 1, 1);
    goes("LIE's longest", "s10 0 9 1;s20 100 9 1;", 2, 0, 1, 2);
    lies("BUSY", 3, 2, 3);
    lies("BUSY", 3, 3, 4);
    goes("BUSY's least", "s10 100 9 1;s20 100 9 1;", 3, 0, 1, 1);
    goes("BUSY's most", "s10 100 9 1;s20 100 9 1;s20 100 9 1;", 3, 0, 1, 2);
    goes("BUSY not more", "s10 100 9 1;", 3, 1, 1, -4);
    goes("FULL not more", STEADY, 4, 1, 1, -4);
    goes("FULL more", STEADY, 4, 1, 2, 1);
    goes("FULL less than its seats", STEADY, 4, 9, 2, -4);
    goes("FULL all seats", STEADY, 4, 9, 3, 1);
    x = ruled(STEADY, 4, 9);
    x.go(1);
    x.comes(0, 0);
    x.go(1);
    due("FULL, nobody left to come", x.boat(1), 1);
    x = ruled(STEADY, 4, 9);
    x.go(1);
    x.comes(0, 1);
    x.go(1);
    due("FULL, one may come yet", x.boat(1), -4);
    goes("RULE's first", "s01 100 9 1;s02 100 9 1;s02 100 9 1;", 0, 0, 1, 1);
    goes("BEST's most", "s01 100 9 1;s02 100 9 1;s02 100 9 1;", 5, 0, 1, 2);
    goes("RULE's first of two", "s02 100 9 1;s01 100 9 1;", 0, 0, 1, 2);
    goes("BEST's least of two", "s02 100 9 1;s01 100 9 1;", 5, 0, 1, 1);
    goes("BEST with nobody", "s20 100 9 1;", 5, 0, 1, 2);
    goes("TOLD", STEADY, 6, 2, 1, 2);
    goes("TOLD modulo", STEADY, 6, 4, 1, 1);
    goes("TOLD here", STEADY, 6, 3, 9, -4);
  }

  /** Where the boat goes behind so many minutes, and that it lay a minute earlier. */
  static void goes(String name, String text, int kind, int figure, int minutes, int to) {
    FerryBells x = ruled(text, kind, figure);
    if (minutes > 1) {
      x.go(minutes - 1);
      due(name + " lies", x.boat(1), -4);
    }
    x.go(1);
    due(name + " goes", x.boat(1), to);
  }

  /** From 1, where it has brought the first, the boat is called back in the minute at. */
  static void lies(String name, int kind, int figure, int at) {
    FerryBells x = ruled(STEADY, kind, figure);
    x.go(3);
    if (at > 3) {
      x.go(at - 3);
      due(name + " " + figure + " lies", x.boat(0), 1);
    }
    x.go(1);
    due(name + " " + figure + " is called", x.boat(1), 0);
  }

  // ---- 14 .. 21

  static void refusedRules() {
    FerryBells x = with("m01 3;" + STEADY);
    x.row(1, 0, 1);
    int[] shelves = {8, 0, 1};
    int[] whys = {-1, -11, -12};
    for (int i = 0; i < 3; i++) {
      int d = shelves[i];
      due("14", x.day(d, 0, 6, 1, 0), whys[i]);
      due("15", x.mean(d, 0, 6, 1, 1), LESS + whys[i]);
      due("17", x.where(d, 6, 1, 1), whys[i]);
      due("18", x.enough(d, 0, 6, 1), whys[i]);
      due("19", x.lantern(d, 0, 6, 1, 1), LESS + whys[i]);
      due("20", x.price(d, 0, 6, 1, 1), LESS + whys[i]);
      due("21", x.son(d, 0, 1, 6, 1), LESS + whys[i]);
      due("34", x.care(d), LESS + whys[i]);
      due("35", x.toss(d), whys[i]);
      due("14 -1 first", x.day(d, 3, 6, 1, 0), -1);
      due("15 -1 first", x.mean(d, 0, 0, 1, 1), LESS - 1);
      due("17 -1 first", x.where(d, 6, 11, 1), -1);
      due("18 -1 first", x.enough(d, 0, 121, 1), -1);
      due("19 -1 first", x.lantern(d, 0, 6, 1, 21), LESS - 1);
      due("20 -1 first", x.price(d, 1, 6, 1, 1), LESS - 1);
      due("21 -1 first", x.son(d, 1, 1, 6, 1), LESS - 1);
    }
    x.keep(0, 1, 0, 0);
    due("14 landing", x.day(0, -1, 6, 1, 0), -1);
    due("14 minutes", x.day(0, 0, 0, 1, 0), -1);
    due("14 minutes above", x.day(0, 0, 121, 1, 0), -1);
    due("14 what", x.day(0, 0, 6, 1, 4), -1);
    due("15 landing", x.mean(0, 3, 6, 1, 1), LESS - 1);
    due("15 no days", x.mean(0, 0, 6, 0, 1), LESS - 1);
    due("15 eleven days", x.mean(0, 0, 6, 11, 1), LESS - 1);
    due("17 minutes", x.where(0, 121, 1, 1), -1);
    due("18 landing", x.enough(0, 3, 6, 1), -1);
    due("19 landing", x.lantern(0, 3, 6, 1, 1), LESS - 1);
    due("19 minutes", x.lantern(0, 0, 0, 1, 1), LESS - 1);
    due("19 below", x.lantern(0, 0, 6, 1, -1), LESS - 1);
    due("20 minutes", x.price(0, 0, 0, 1, 1), LESS - 1);
    due("20 above", x.price(0, 0, 6, 1, 100), LESS - 1);
    due("20 below", x.price(0, 0, 6, 1, -1), LESS - 1);
    due("21 landing", x.son(0, 3, 1, 6, 1), LESS - 1);
    due("21 other", x.son(0, 0, 3, 6, 1), LESS - 1);
    due("21 minutes", x.son(0, 0, 1, 121, 1), LESS - 1);
  }

  static void days() {
    FerryBells x = with(STEADY);
    x.go(2);
    x.keep(0, 1, 0, 0);
    int[] told = {15, 1, 10, 1};
    for (int i = 0; i < 4; i++) {
      due("14 what " + i, x.day(0, 0, 6, 77, i), told[i]);
    }
    due("14 from 1", x.day(0, 1, 6, 77, 0), 20);
    told(x, 1, 0, 0, 0);
    due("14 the day as it goes is left alone", x.count(3) + x.boat(3), 3);
    due("15 of one", x.mean(0, 0, 6, 1, 1), -5);
    due("15 of ten", x.mean(0, 0, 6, 10, 1), -50);
    FerryBells y = with("s01 50 5 10;s10 40 4 7;");
    y.keep(0, 1, 3, 0);
    int sum = 0;
    for (int z = 5; z < 9; z++) {
      sum += y.day(0, 1, 50, z, 2) - y.day(0, 1, 50, z, 0);
    }
    due("15 z, z and 1, ..", y.mean(0, 1, 50, 4, 5), sum);

    write(x, 1, 0, 0, 4);
    due("16", x.best(1, 9, 6, 2, 1), 1);
    write(x, 1, 0, 4, 0);
    due("16 the first place", x.best(1, 9, 6, 2, 1), 0);
    write(x, 1, 0, 3);
    due("16 one kind", x.best(1, 9, 6, 2, 1), 0);
    write(x, 1, 0, 0, 4, 4);
    due("16 of several the first", x.best(1, 9, 6, 2, 1), 1);
    due("16 figure", x.best(1, 10, 6, 1, 1), -1);
    due("16 figure below", x.best(1, -1, 6, 1, 1), -1);
    due("16 minutes", x.best(1, 0, 121, 1, 1), -1);
    due("16 days", x.best(1, 0, 6, 0, 1), -1);
    due("16 no shelf", x.best(-1, 0, 6, 1, 1), -1);
    due("16 nothing", x.best(2, 0, 6, 1, 1), -11);
    due("16 a rule", x.best(0, 0, 6, 1, 1), -12);
    write(x, 1, 1, 0);
    due("16 shorts", x.best(1, 0, 6, 1, 1), -12);
    write(x, 1, 0);
    due("16 no kinds", x.best(1, 0, 6, 1, 1), -13);
    write(x, 1, 0, 0, 0, 0, 0, 0, 0, 0, 0);
    due("16 eight kinds", x.best(1, 0, 6, 1, 1), -13);
    write(x, 1, 0, 0, 7);
    due("16 no kind", x.best(1, 0, 6, 1, 1), -13);
    write(x, 1, 0, -1, 0);
    due("16 a kind below", x.best(1, 0, 6, 1, 1), -13);
    x.tell(2);
    write(x, 1, 0, 0, 1, 2, 3, 4, 5, 6);
    due("16 seven kinds from 0", x.best(1, 9, 6, 1, 1), 4);

    due("17", x.where(0, 6, 1, 1), 0);
    y = with("s10 100 5 10;");
    y.keep(0, 1, 0, 0);
    due("17 where they come", y.where(0, 6, 1, 1), 1);
    y.comes(0, 0);
    due("17 of several the least", y.where(0, 6, 1, 1), 0);

    y = with("s01 100 1 0;s01 100 1 0;");
    y.keep(0, 1, 0, 0);
    due("18", y.enough(0, 0, 1, 1), 2);
    due("18 none", y.enough(0, 0, 2, 1), -4);
    y.comes(1, 0);
    due("18 one", y.enough(0, 0, 1, 1), 1);
    due("18 seats stay", y.count(2), 3);
    y = with("s01 100 1 0;s01 100 1 0;");
    y.keep(0, 1, 4, 9);
    due("18 six", y.enough(0, 0, 3, 1), 6);
    due("18 seven were wanted", y.enough(0, 0, 4, 1), -4);

    due("19", x.lantern(0, 0, 6, 1, 1), 1);
    due("19 by 0", x.lantern(0, 0, 6, 1, 0), 0);
    due("19 twenty at most", x.lantern(0, 0, 120, 1, 15), x.lantern(0, 0, 120, 1, 20));
    due("19 waits stay", x.sort(0, 3), 5);

    due("20", x.price(0, 0, 6, 1, 5), 5);
    due("20 by 0", x.price(0, 0, 6, 1, 0), 0);
    due("20 99 at most", x.price(0, 0, 6, 1, 99), 89);
    due("20 pays stay", x.sort(0, 4), 10);
    due("20 waits stay", x.sort(0, 3), 5);
    y = with("n2;m01 1;s01 100 2 10;");
    y.keep(0, 1, 1, 0);
    due("20 waits not less yet", y.price(0, 0, 4, 1, 9), 3 * 19 - 3 * 10);
    due("20 waits one less", y.price(0, 0, 4, 1, 10), 2 * 20 - 3 * 10);
    due("20 waits 1 at least", y.price(0, 0, 4, 1, 99), 2 * 99 - 3 * 10);

    due("21", x.son(0, 1, 0, 6, 1), 5);
    due("21 that lies", x.son(0, 0, 1, 6, 1), 0);
  }

  // ---- 22 .. 28

  static void fromNowOn() {
    FerryBells x = with(STEADY);
    due("22 four times none, then its rule", x.goings(0, 5), -3);
    due("22 its rule goes", x.goings(0, 8), 30 - 1 - 2 - 3 - 4 - 5);
    due("22 to 1", x.goings(2, 4), 10 - 6);
    due("22 here is none", x.goings(1, 5), -3);
    due("22 not there is none", x.goings(4, 5), -3);
    due("22 the lowest is the first", x.goings(2 * 5, 5), 20 - 1 - 2 - 3);
    due("22 to 1 and back", x.goings(2 + 5, 7), 10 - 1 - 2 - 3 - 4 - 5 - 2);
    due("22 told", x.goings(-1, 5), LESS - 1);
    due("22 told above", x.goings(625, 5), LESS - 1);
    due("22 minutes", x.goings(0, 0), LESS - 1);
    due("22 minutes above", x.goings(0, 121), LESS - 1);
    due("22 the last", x.goings(624, 120), x.goings(0, 120));
    x.go(1);
    due("22 from now on alone", x.goings(0, 3), 10 - 6);
    due("22 is in mind", x.count(3), 1);

    for (int minutes = 1; minutes < 40; minutes += 6) {
      FerryBells y = with("n4;s01 50 5 10;s10 40 4 7;s32 30 9 20;");
      y.go(5);
      int best = y.bestGoings(minutes);
      int most = y.goings(best, minutes);
      for (int told = 0; told < 625; told += 2) {
        int gain = y.goings(told, minutes);
        due("23 in " + minutes + " not " + told,
            gain > most || gain == most && told < best ? told : best, best);
      }
    }
    due("23 of several the least", new FerryBells().bestGoings(120), 0);
    due("23 none", x.bestGoings(0), -1);
    due("23 above", x.bestGoings(121), -1);

    x = with("s01 40 9 5;s10 30 9 5;s10 50 9 5;");
    due("24 above", x.nobody(1, 2, 0), 49);
    due("24 below", x.nobody(1, 2, 1), 400);
    due("24 nobody comes there", x.nobody(2, 4, 0) + x.nobody(2, 4, 1), 2);
    due("24 no minutes", x.nobody(0, 0, 0) + x.nobody(0, 0, 1), 2);
    x.comes(1, 1);
    x.comes(2, 1);
    due("24 eight", x.nobody(1, 4, 0), 99L * 99 * 99 * 99 * 99 * 99 * 99 * 99);
    due("24 eight's below", x.nobody(1, 4, 1), 10000000000000000L);
    read(x, "s12 100 1 1;");
    due("24 nine", x.nobody(1, 3, 0), FAR - 3);
    due("24 six", x.nobody(1, 2, 0), 0);
    due("24 six's below", x.nobody(1, 2, 1), 1);
    due("24 nine, but no part", x.nobody(1, 3, 2), FAR - 1);
    due("24 part below", x.nobody(1, 1, -1), FAR - 1);
    due("24 minutes", x.nobody(1, 5, 0), FAR - 1);
    due("24 minutes below", x.nobody(1, -1, 0), FAR - 1);
    due("24 landing", x.nobody(3, 1, 0), FAR - 1);

    x = with(STEADY);
    for (int sort = 0; sort < 3; sort++) {
      int least = new int[] {-128, -32768, -2147483648}[sort];
      write(x, 0, sort, 0, 1, 2, 3, 4);
      due("25 all right", x.judge(0, 0), -4);
      write(x, 0, sort, least, 1, least, 4);
      due("25 wrong, and skipped", x.judge(0, 0), 3);
      write(x, 0, sort, least + 1);
      due("25 one above the least", x.judge(0, 0), 0);
      write(x, 0, sort);
      due("25 empty", x.judge(0, 0), -4);
    }
    due("25 landing", x.judge(3, 0), -1);
    due("25 shelf", x.judge(0, 8), -1);
    due("25 nothing", x.judge(0, 1), -11);
    x.keep(1, 1, 0, 0);
    due("25 a rule", x.judge(0, 1), -12);
    due("25 is in mind", x.count(3) + x.count(4), 0);
  }

  static void imageAndCount() {
    FerryBells x = ruled(STEADY + "m01 2;", 2, 0);
    x.go(4);
    due("26", x.image(), 4);
    int[] before = all(x);
    x.go(9);
    due("26 read", read(x, "m01 9;b5;s12 9 9 9;"), 3);
    x.comes(0, 3);
    x.set(1, 4);
    x.keep(0, 1, 6, 6);
    x.rule(0);
    x.tell(2);
    due("27", x.restore(), 4);
    int[] behind = all(x);
    for (int i = 0; i < before.length; i++) {
      due("27 at " + i, behind[i], before[i]);
    }
    due("27 shelves stay", x.toss(0), 205);
    x.go(3);
    due("27 again", x.restore(), 4);
    due("27 z", x.set(1, 0), before[0]);

    x = with("n4;s01 40 9 5;s10 30 9 5;b4;");
    int[] counts = {4, 2, 4, 0, 0, 70};
    for (int i = 0; i < 6; i++) {
      due("28 what " + i, x.count(i), counts[i]);
    }
    x.comes(0, 100);
    x.comes(1, 100);
    x.go(3);
    due("28 the minute", x.count(3), 3);
    due("28 all who stand", x.count(4), 2 + 3);
    due("28 no what", x.count(6), -1);
    due("28 below", x.count(-1), -1);
  }

  static int[] all(FerryBells x) {
    int z = x.set(1, 0);
    x.set(1, z);
    return new int[] {z, x.count(0), x.count(1), x.count(2), x.count(3), x.count(4), x.count(5),
        x.told(0), x.told(1), x.told(2), x.told(3), x.boat(0), x.boat(1), x.boat(2), x.boat(3),
        x.boat(4), x.stand(0, 0, 0), x.stand(0, 0, 1), x.stand(0, 1, 1), x.minutes(0, 1),
        x.aboard(0)};
  }

  // ---- 29 .. 35

  static void shelves() {
    FerryBells x = new FerryBells();
    due("29 no shelf", x.keep(8, 0, 0, 0), -1);
    due("29 below", x.keep(-1, 1, 0, 0), -1);
    due("29 what", x.keep(0, 2, 0, 0), -1);
    due("29 what below", x.keep(0, -1, 0, 0), -1);
    due("29 kind", x.keep(0, 1, 7, 0), -1);
    due("29 kind below", x.keep(0, 1, -1, 0), -1);
    due("29 figure", x.keep(0, 1, 0, 10), -1);
    due("29 figure below", x.keep(0, 1, 0, -1), -1);
    due("29 still nothing", x.toss(0), -11);
    due("29", x.keep(0, 1, 6, 9), 0);
    due("29 refused", x.keep(0, 1, 7, 9), -1);
    due("29 it stays", x.toss(0), 207);
    due("29 nothing, whatever", x.keep(0, 0, 99, -99), 0);
    due("29 nothing is there", x.toss(0), -11);

    due("30 shelf", x.row(8, 0, 0), -1);
    due("30 sort", x.row(0, 3, 0), -1);
    due("30 sort below", x.row(0, -1, 0), -1);
    due("30 above", x.row(0, 0, 101), -1);
    due("30 below", x.row(0, 0, -1), -14);
    due("30 shelf goes ahead", x.row(8, 0, -1), -1);
    due("30 still nothing", x.put(0, 0, 0), -11);
    due("30", x.row(0, 2, 100), 0);
    due("30 is 0", x.element(0, 99), 0);
    x.put(0, 0, 7);
    x.put(0, 99, 7);
    due("30 anew", x.row(0, 2, 100), 0);
    due("30 is 0 anew", x.element(0, 99) + x.element(0, 0), 0);

    due("31", x.put(0, 99, -2147483648), 0);
    due("32 ints", x.element(0, 99), -2147483648L);
    due("31 no place", x.put(0, 100, 1), -13);
    due("31 place below", x.put(0, -1, 1), -13);
    due("31 no shelf", x.put(-1, 0, 1), -1);
    x.keep(1, 1, 0, 0);
    due("31 a rule", x.put(1, 0, 1), -12);
    write(x, 2, 0, 200, -129, 511);
    due("32 bytes", x.element(2, 0), -56);
    due("32 bytes wrap", x.element(2, 1), 127);
    due("32 lowest bits", x.element(2, 2), -1);
    write(x, 3, 1, 40000, -32769, 65537);
    due("32 shorts", x.element(3, 0), -25536);
    due("32 shorts wrap", x.element(3, 1), 32767);
    due("32 lowest bits of shorts", x.element(3, 2), 1);
    same("32 no shelf", thrown(x, 8, 0), "IllegalArgumentException");
    same("32 below", thrown(x, -1, 0), "IllegalArgumentException");
    same("32 nothing", thrown(x, 7, 0), "IllegalStateException");
    same("32 a rule", thrown(x, 1, 0), "IllegalStateException");
    same("32 no place", thrown(x, 2, 3), "IllegalStateException");
    same("32 place below", thrown(x, 2, -1), "IllegalStateException");

    write(x, 4, 0, 1, 2, 3, 4, 5);
    due("33", x.copy(4, 0, 4, 1, 4), 4);
    int[] moved = {1, 1, 2, 3, 4};
    for (int i = 0; i < 5; i++) {
      due("33 at " + i, x.element(4, i), moved[i]);
    }
    due("33 to another", x.copy(4, 3, 2, 0, 2), 2);
    due("33 came", x.element(2, 0) * 10 + x.element(2, 1), 34);
    due("33 stays", x.element(2, 2), -1);
    due("33 none", x.copy(4, 5, 2, 3, 0), 0);
    due("33 shelf", x.copy(8, 0, 2, 0, 1), -1);
    due("33 other shelf", x.copy(2, 0, 8, 0, 1), -1);
    due("33 nothing", x.copy(7, 0, 1, 0, 1), -11);
    due("33 to nothing", x.copy(1, 0, 7, 0, 1), -11);
    due("33 a rule", x.copy(1, 0, 2, 0, 1), -12);
    due("33 to a rule", x.copy(2, 0, 1, 0, 1), -12);
    due("33 two rules", x.copy(1, 0, 1, 0, 0), -12);
    due("33 two sorts", x.copy(2, 0, 3, 0, 1), -12);
    due("33 n below", x.copy(2, 0, 4, 0, -1), -13);
    due("33 i below", x.copy(2, -1, 4, 0, 1), -13);
    due("33 j below", x.copy(2, 0, 4, -1, 1), -13);
    due("33 beyond", x.copy(2, 2, 4, 0, 2), -13);
    due("33 beyond there", x.copy(4, 0, 2, 2, 2), -13);
    due("33 beyond, none", x.copy(2, 4, 4, 0, 0), -13);
    due("33 far", x.copy(2, 2147483647, 4, 0, 2147483647), -13);

    int[] cares = {5, 12, 10, 11, -2, 18, 6};
    int[] tosses = {7, 7, 7, 107, -15, 107, 206};
    for (int k = 0; k < 7; k++) {
      x.keep(0, 1, k, 7);
      due("34 kind " + k, x.care(0), cares[k]);
      due("35 kind " + k, x.toss(0), tosses[k]);
      x.keep(0, 1, k, 0);
      due("35 figure 0 of kind " + k, x.toss(0), -15);
    }
    x.keep(0, 1, 6, 8);
    due("34 half, cut", x.care(0), 6);
  }

  public static void main(String[] args) {
    newObject();
    rivers();
    theDay();
    kinds();
    refusedRules();
    days();
    fromNowOn();
    imageAndCount();
    shelves();
    System.out.println(wrong == 0 ? "all promises hold" : wrong + " answers are not as due");
    if (wrong != 0) {
      System.exit(1);
    }
  }
}
