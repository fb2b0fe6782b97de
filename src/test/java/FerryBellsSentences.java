import java.util.Arrays;

/**
 * Sentences of the document that name no bound, and yet could be broken unseen: what a call leaves
 * as it was, in which order two BOATS come, from which z, MINUTE and RULE a call in mind goes on. The
 * words in says() are the document's, the dues are reckoned by hand; last come the choices of NOTES.md.
 */
public final class FerryBellsSentences {

  static final int MIN = -2147483648;
  static final int MAX = 2147483647;
  static final int LESS = -1000000000;
  static final long FAR = -4000000000000000000L;

  /** All ways of one MINUTE each. */
  static final String NEAR = "m01 1;m02 1;m12 1;";

  /** With this RULE a BOAT that is AT 0 lies there. */
  static final int TOLD = 6;

  static int wrong = 0;
  static int sentences = 0;
  static String sentence = "";

  static void says(String words, Runnable test) {
    sentence = words;
    sentences++;
    try {
      test.run();
    } catch (RuntimeException e) {
      wrong++;
      System.out.println(words + "\n    threw " + e);
    }
  }

  static void due(String what, long got, long want) {
    if (got != want) {
      wrong++;
      System.out.println(sentence + "\n    " + what + " answered " + got + ", due is " + want);
    }
  }

  static void write(FerryBells x, int d, int sort, int... values) {
    due("row", x.row(d, sort, values.length), 0);
    for (int i = 0; i < values.length; i++) {
      due("put", x.put(d, i, values[i]), 0);
    }
  }

  static int read(FerryBells x, String text) {
    write(x, 7, 0, text.chars().toArray());
    return x.river(7);
  }

  static FerryBells with(String text) {
    FerryBells x = new FerryBells();
    due(text, read(x, text), (int) text.chars().filter(c -> c == ';').count());
    return x;
  }

  /** The SHELF 6 keeps the BOAT's RULE. */
  static FerryBells ruled(String text, int kind, int figure) {
    FerryBells x = with(text);
    due("keep", x.keep(6, 1, kind, figure), 0);
    due("rule", x.rule(6), kind);
    return x;
  }

  /** The SHELF 0 keeps a RULE. */
  static FerryBells kept(FerryBells x, int kind, int figure) {
    due("keep", x.keep(0, 1, kind, figure), 0);
    return x;
  }

  static void stand(FerryBells x, int landing, int... sorts) {
    due("how many STAND at " + landing, x.stand(landing, -1, 0), sorts.length);
    for (int i = 0; i < sorts.length; i++) {
      due("who STANDS at " + landing + ", " + i, x.stand(landing, i, 0), sorts[i]);
    }
  }

  static void aboard(FerryBells x, int... sorts) {
    due("how many are ABOARD", x.boat(3), sorts.length);
    for (int i = 0; i < sorts.length; i++) {
      due("who is ABOARD, " + i, x.aboard(i), sorts[i]);
    }
  }

  static void told(FerryBells x, int... figures) {
    for (int i = 0; i < figures.length; i++) {
      due("told " + i, x.told(i), figures[i]);
    }
  }

  static int z(FerryBells x) {
    int z = x.set(1, 0);
    x.set(1, z);
    return z;
  }

  /** What z without its sign's bit over 65536, cut, modulo 100 will be next. */
  static int chance(int z) {
    long next = ((long) z * 1103515245L + 12345L) & 0x7fffffffL;
    return (int) (next / 65536L % 100L);
  }

  // ---- the MINUTE's steps happen in a MINUTE, and in no call else

  static void steps() {
    says("3 come ABOARD, while there are SEATS: in a MINUTE, not when SEATS become more", () -> {
      for (boolean bySet : new boolean[] {true, false}) {
        FerryBells x = ruled("b1;s01 100 20 1;s02 100 20 1;", TOLD, 0);
        x.go(1);
        aboard(x, 0);
        stand(x, 0, 1);
        due("three SEATS", bySet ? x.set(0, 3) : read(x, "b3;"), 1);
        aboard(x, 0);
        stand(x, 0, 1);
        x.go(1);
        aboard(x, 0, 1, 0);
        stand(x, 0, 1);
      }
    });
    says("9 The BOAT is told to go to a LANDING now: nobody comes ABOARD, no MINUTE goes by", () -> {
      FerryBells x = ruled("b1;s01 100 20 1;s02 100 20 1;", TOLD, 0);
      x.go(1);
      x.set(0, 3);
      int z = z(x);
      due("tell", x.tell(1), 3);
      aboard(x, 0);
      stand(x, 0, 1);
      told(x, 1, 0, 0, 0);
      due("the MINUTE", x.count(3), 1);
      due("z", z(x), z);
      due("KIND", x.boat(4), TOLD);
      x.go(3);
      aboard(x);
      told(x, 1 + 3 + 5 + 7, 0, 1, 1);
    });
    says("7 The RULE in SHELF d is the BOAT's: it is asked in a MINUTE's step 4", () -> {
      FerryBells x = ruled("s12 100 20 1;", 1, 0);
      due("AT 0", x.boat(0), 0);
      x.go(1);
      due("UNDER WAY", x.boat(1), 1);
      x.keep(6, 1, 6, 2);
      x.rule(6);
      due("UNDER WAY as before", x.boat(1), 1);
      due("MINUTES left", x.boat(2), 3);
    });
    says("5 COMES of a SORT: who STANDS of it stays, z too", () -> {
      FerryBells x = with("s10 100 20 1;s12 100 20 1;");
      x.go(2);
      int z = z(x);
      x.comes(0, 0);
      x.comes(1, 1);
      stand(x, 1, 0, 1, 0, 1);
      due("z", z(x), z);
      due("since", x.stand(1, 0, 1), 2);
      told(x, 2 + 4, 0, 0, 0);
    });
    says("3 AT a LANDING those who STAND there come ABOARD: with some ABOARD who don't get off", () -> {
      FerryBells x = with("b6;" + NEAR + "s01 100 20 1;s02 100 20 2;s12 100 20 4;");
      x.go(2);
      due("AT 1 it goes on to 2", x.boat(1), 2);
      aboard(x, 1, 2, 2);
      told(x, 1 + 2, 0, 1, 1);
      x.go(1);
      told(x, 3 + 5, 0, 1 + 2 + 8, 4);
    });
  }

  // ---- a RIVER read while the day goes on

  static void rivers() {
    says("2 all of it comes: and all else stays, z, the MINUTE, the BOAT's RULE, what was told", () -> {
      FerryBells x = ruled("m01 2;s01 100 20 5;s10 50 9 1;", 2, 1);
      x.go(7);
      int[] before = day(x);
      due("more", read(x, "m12 1;b6;s21 30 1 2;"), 3);
      int[] behind = day(x);
      due(Arrays.toString(before) + " to " + Arrays.toString(behind),
          Arrays.equals(before, behind) ? 1 : 0, 1);
    });
    says("m: MINUTES from one to the other: a BOAT that is UNDER WAY has left what it had", () -> {
      FerryBells x = new FerryBells();
      x.tell(1);
      x.go(1);
      due("m", read(x, "m01 9;m12 8;"), 2);
      due("MINUTES left", x.boat(2), 2);
      x.go(2);
      due("AT 1", x.boat(0), 1);
      due("back", x.tell(0), 9);
    });
    says("n and LANDINGS: the BOAT stays where it is", () -> {
      FerryBells x = new FerryBells();
      x.tell(1);
      due("n while UNDER WAY", read(x, "n4;n2;n3;"), 3);
      due("to 1", x.boat(1), 1);
      due("MINUTES left", x.boat(2), 3);
      x.go(3);
      due("n while AT 1", read(x, "n2;n4;"), 2);
      due("AT 1", x.boat(0), 1);
    });
    says("s: a SORT more, behind those that there are; two may be alike", () -> {
      FerryBells x = with("s01 1 2 3;");
      due("two more", read(x, "s01 1 2 3;s20 4 5 6;"), 2);
      int[][] sorts = {{0, 1, 1, 2, 3}, {0, 1, 1, 2, 3}, {2, 0, 4, 5, 6}};
      for (int i = 0; i < 15; i++) {
        due("SORT " + i / 5, x.sort(i / 5, i % 5), sorts[i / 5][i % 5]);
      }
    });
    says("the same of two STATEMENTS: the last one stands", () -> {
      FerryBells x = with("m01 2;b4;m10 5;b2;n4;n3;");
      due("MINUTES", x.minutes(0, 1), 5);
      due("SEATS", x.count(2), 2);
      due("LANDINGS", x.count(0), 3);
    });
  }

  static int[] day(FerryBells x) {
    int[] day = new int[30];
    day[0] = z(x);
    day[1] = x.count(3);
    for (int i = 0; i < 5; i++) {
      day[2 + i] = x.boat(i);
      day[7 + i] = x.told(i);
      day[12 + i] = x.aboard(i);
      day[17 + i] = x.stand(i % 3, -1, 0);
      day[22 + i] = x.stand(i % 3, 0, i % 2);
    }
    return day;
  }

  // ---- days in mind

  static void days() {
    says("LANTERN, PRICE, SON of a DAY: both with the z that is told", () -> {
      for (int z : new int[] {MIN, -1, 0, 1, 2, 99, 12345, MAX}) {
        FerryBells x = kept(with("s10 50 2 9;s12 40 3 9;s21 30 1 9;"), 0, 0);
        due("LANTERN by 0", x.lantern(0, 0, 60, z, 0), 0);
        due("PRICE by 0 of one who is not carried", x.price(0, 0, 60, z, 0), 0);
        due("SON who lies where nobody comes", x.son(0, 1, 0, 60, z), 0);
        x = kept(with("n2;m01 1;s01 50 2 9;"), 1, 0);
        due("PRICE by 0", x.price(0, 0, 60, z, 0), 0);
        due("by 1 each of them", x.price(0, 0, 60, z, 1), x.day(0, 0, 60, z, 3));
      }
    });
    says("PRICE: if a SORT PAID n more: this one alone, and its WAITS alone were less", () -> {
      FerryBells x = kept(with("b6;m01 1;s01 100 20 10;s01 100 20 20;"), 0, 0);
      due("the one", x.price(0, 0, 2, 1, 7), 7);
      due("the other", x.price(0, 1, 2, 1, 8), 8);
      x = kept(with("n2;m01 1;s01 100 2 10;s10 0 2 10;"), 1, 0);
      due("EARNED", x.day(0, 0, 4, 1, 2), 30);
      due("of one who doesn't come", x.price(0, 1, 4, 1, 20), 0);
      due("of the one who comes", x.price(0, 0, 4, 1, 20), 2 * 30 - 30);
    });
    says("SON: a second BOAT by the same RULE: the SHELF's, not the BOAT's", () -> {
      FerryBells x = kept(ruled(NEAR + "s01 100 20 1;", 1, 0), 0, 0);
      due("by a RULE they lie", x.son(0, 1, 2, 5, 1), 0);
      kept(x, 1, 0);
      due("by a TURN the other boards first", x.son(0, 1, 2, 2, 1), 2);
    });
    says("SON: a second BOAT has SEATS as the one has", () -> {
      FerryBells x = kept(with("b1;s01 100 20 1;s20 100 20 1;"), 0, 0);
      due("each its own", x.son(0, 0, 2, 1, 1), 1);
      x = kept(with("b1;s20 100 20 1;s20 100 20 1;s20 100 20 1;"), 0, 0);
      due("no more than so many", x.son(0, 0, 2, 1, 1), 1);
      x.set(0, 2);
      due("two", x.son(0, 0, 2, 1, 1), 2);
      x.set(0, 6);
      due("all three", x.son(0, 0, 2, 1, 1), 3);
    });
    says("SON: each step for the one BOAT, then for the other: they come ABOARD at one LANDING", () -> {
      FerryBells x = kept(with(NEAR + "s01 100 20 1;s02 100 20 1;s21 100 20 1;s10 100 20 1;"), 0, 0);
      due("WAITED with the one from 0", x.day(0, 0, 3, 1, 0), 2 + 4 + 7);
      due("the one, with one ABOARD, takes both", x.son(0, 0, 2, 3, 1), 13 - (1 + 3 + 5));
      due("WAITED with the one from 2", x.day(0, 2, 3, 1, 0), 3 + 5 + 6);
      due("the one, empty, takes both", x.son(0, 2, 0, 3, 1), 14 - (1 + 3 + 2));
    });
    says("SON: who STANDS is called for by both BOATS", () -> {
      FerryBells x = kept(with("n4;m01 1;m02 1;m12 1;m03 1;m31 1;m32 9;b1;s30 100 20 1;"), 2, 0);
      due("both go to 3", x.son(0, 0, 1, 2, 1), 3 - 2);
    });
    says("a DAY: SEATS, COMES and MINUTES as they are", () -> {
      FerryBells x = kept(with("s01 100 20 10;"), 0, 0);
      due("EARNED", x.day(0, 0, 4, 1, 2), 10);
      read(x, "m01 1;");
      due("a nearer way", x.day(0, 0, 2, 1, 2), 10);
      due("WAITED", x.day(0, 0, 4, 1, 0), 1 + 2 + 3);
      x.comes(0, 0);
      due("nobody comes", x.day(0, 0, 4, 1, 2), 0);
      x = kept(with("s01 100 20 10;s01 100 20 10;"), 0, 0);
      due("WAITED", x.day(0, 0, 1, 1, 0), 0);
      x.set(0, 1);
      due("one SEAT", x.day(0, 0, 1, 1, 0), 1);
    });
    says("WHERE: the LANDING at which to begin: one that there is", () -> {
      FerryBells x = kept(with("n4;m03 1;m01 9;m02 9;m12 9;s01 100 20 99;"), 1, 0);
      due("two come, while it comes from 3", x.where(0, 11, 1, 1), 3);
      due("3 goes away", read(x, "n3;"), 1);
      due("one comes", x.where(0, 11, 1, 1), 0);
    });
    says("BEST RULE of a ROW of KINDS with a FIGURE: of each of them", () -> {
      FerryBells x = with("s10 100 9 5;");
      write(x, 1, 0, 0, 3);
      due("BUSY with 8 is too late", x.best(1, 8, 8, 1, 1), 0);
      due("BUSY with 1 is called", x.best(1, 1, 8, 1, 1), 1);
      write(x, 1, 0, 6, 1, 2);
      due("TOLD with 1 goes to 1", x.best(1, 1, 4, 1, 1), 0);
      due("TOLD with 3 stays at 0", x.best(1, 3, 4, 1, 1), 1);
    });
  }

  // ---- from now on

  static void fromNowOn() {
    says("GOINGS, BEST GOINGS from now on: those who are ABOARD now are carried", () -> {
      FerryBells x = ruled("m01 1;s01 100 20 50;", TOLD, 0);
      x.go(1);
      x.comes(0, 0);
      aboard(x, 0);
      due("none, and its RULE lies", x.goings(0, 9), 0);
      due("to 1", x.goings(2, 2), 50);
      due("BEST", x.bestGoings(2), 2);
      due("BEST in one MINUTE", x.bestGoings(1), 0);
      x.tell(1);
      due("UNDER WAY", x.goings(0, 1), 50);
      due("BEST", x.bestGoings(9), 0);
    });
    says("GOINGS, BEST GOINGS: then by its RULE, from the MINUTE that it is now", () -> {
      FerryBells x = ruled("n2;m01 1;s10 100 20 10;", 1, 9);
      x.go(6);
      due("AT 1", x.boat(0), 1);
      aboard(x, 0, 0, 0);
      stand(x, 1, 0, 0, 0);
      due("none in 6 .. 9, by its RULE in 10", x.goings(0, 6), 30 - (4 + 5 + 6 + 7 + 8 + 9));
      due("BEST", x.bestGoings(2), 1);
      due("the MINUTE", x.count(3), 6);
    });
    says("GOINGS, BEST GOINGS, JUDGED go on from z as it is", () -> {
      for (int z : new int[] {MIN, -3, 0, 1, 8, 4711, MAX}) {
        FerryBells x = with("s10 0 20 1;");
        write(x, 0, 0, 0);
        write(x, 1, 0, 1);
        x.set(1, z);
        x.comes(0, chance(z));
        due("nobody comes", x.goings(0, 1), 0);
        due("JUDGED 0", x.judge(1, 0), -4);
        due("JUDGED 1", x.judge(1, 1), 0);
        if (chance(z) < 100) {
          x.comes(0, chance(z) + 1);
          due("one comes", x.goings(0, 1), -1);
          due("JUDGED 0", x.judge(1, 0), 0);
          due("JUDGED 1", x.judge(1, 1), -4);
        }
        due("z", z(x), z);
      }
      FerryBells x = ruled("m01 1;s01 0 20 50;", TOLD, 0);
      for (int z : new int[] {1, 8, 4711}) {
        x.set(1, z);
        x.comes(0, chance(z));
        int nobody = x.bestGoings(2);
        x.comes(0, chance(z) + 1);
        due("BEST, if nobody comes", nobody, 0);
        due("BEST, if one comes", x.bestGoings(2), 2);
      }
    });
    says("JUDGED: from now on by the BOAT's RULE", () -> {
      FerryBells x = ruled("m01 1;s10 100 20 1;", 3, 0);
      write(x, 0, 0, 1, 0, 1, 0, 1, 0);
      due("it is called", x.judge(1, 0), -4);
      x.keep(6, 1, TOLD, 0);
      x.rule(6);
      due("it lies", x.judge(1, 0), 1);
    });
    says("JUDGED: from now on, the MINUTE, those who STAND and are ABOARD", () -> {
      FerryBells x = ruled("n2;m01 1;s10 100 20 1;", 1, 2);
      write(x, 0, 2, 1, 0, 0, 1, 2, 3, 4, 2);
      due("from the MINUTE 0", x.judge(1, 0), -4);
      x.go(2);
      aboard(x, 0, 0);
      write(x, 0, 2, 0, 1, 2, 3, 4, 2);
      due("from the MINUTE 2", x.judge(1, 0), -4);
      x.go(2);
      stand(x, 1, 0);
      write(x, 0, 2, 2, 3, 4, 2);
      due("from the MINUTE 4", x.judge(1, 0), -4);
    });
  }

  // ---- what stays on its SHELF

  static void shelves() {
    says("the ROW that is read, and what is taken from a SHELF, stay there", () -> {
      FerryBells x = with("s01 100 5 10;");
      kept(x, 3, 4);
      write(x, 1, 0, 3, 4);
      write(x, 2, 0, 0, 0);
      x.day(0, 0, 9, 1, 0);
      x.mean(0, 0, 9, 1, 1);
      x.where(0, 9, 1, 1);
      x.enough(0, 0, 9, 1);
      x.lantern(0, 0, 9, 1, 1);
      x.price(0, 0, 9, 1, 1);
      x.son(0, 0, 1, 9, 1);
      x.care(0);
      x.rule(0);
      for (int i = 0; i < 2; i++) {
        due("FIGURE and KIND", x.toss(0), 104);
        due("KIND", x.rule(0), 3);
      }
      for (int i = 0; i < 2; i++) {
        x.best(1, 0, 9, 1, 1);
        x.judge(0, 1);
        x.judge(2, 2);
        x.copy(1, 0, 2, 0, 2);
        x.element(1, 0);
        due("element 0", x.element(1, 0), 3);
        due("element 1", x.element(1, 1), 4);
        due("of another", x.element(2, 1), 4);
      }
    });
    says("SHELVES each hold a RULE of their own", () -> {
      FerryBells x = new FerryBells();
      for (int d = 0; d < 8; d++) {
        x.keep(d, 1, d % 7, d + 1);
      }
      for (int d = 0; d < 8; d++) {
        due("KIND in " + d, x.rule(d), d % 7);
      }
      due("0", x.toss(0), 1);
      due("3", x.toss(3), 104);
      due("7", x.toss(7), 8);
    });
  }

  // ---- choices of NOTES.md, so that none is changed unseen

  static void choices() {
    says("choice: MINUTES to a LANDING that goes away and comes again stay as they were", () -> {
      FerryBells x = with("n4;m03 5;m13 6;m12 7;n2;n4;");
      due("0 to 3", x.minutes(0, 3), 5);
      due("3 to 1", x.minutes(3, 1), 6);
      due("2 to 1", x.minutes(2, 1), 7);
    });
    says("choice: NOBODY's -3 counts SORTS with COMES 0, too", () -> {
      FerryBells x = with("s10 50 1 1;s10 0 1 1;s12 0 1 1;");
      due("nine", x.nobody(1, 3, 0), FAR - 3);
      due("six", x.nobody(1, 2, 1), 4);
    });
    says("choice: BEST begins at LANDING 0, wherever the BOAT is", () -> {
      FerryBells x = with("s01 100 9 10;s10 100 9 10;");
      write(x, 1, 0, 4, 6, 0);
      due("AT 0", x.best(1, 0, 4, 1, 1), 0);
      x.tell(2);
      x.go(3);
      due("AT 2", x.best(1, 0, 4, 1, 1), 0);
    });
    says("choice: n while anybody STANDS or is ABOARD is refused, as many as there are, too", () -> {
      FerryBells x = with("s10 100 9 10;");
      x.go(1);
      due("n3", read(x, "n3;"), -2000);
      due("n4", read(x, "n4;"), -2000);
    });
    says("choice: -4 for a place that is not taken, however great; a wrong what goes ahead", () -> {
      FerryBells x = new FerryBells();
      due("stand", x.stand(0, MAX, 1), -4);
      due("aboard", x.aboard(MAX), -4);
      due("a wrong what", x.stand(0, MAX, 2), -1);
    });
    says("choice: copy of 0 elements at the place behind the last", () -> {
      FerryBells x = new FerryBells();
      x.row(0, 0, 2);
      x.row(1, 0, 3);
      due("0", x.copy(0, 2, 1, 3, 0), 0);
      due("one further", x.copy(0, 3, 1, 3, 0), -13);
      due("one further there", x.copy(0, 2, 1, 4, 0), -13);
    });
  }

  public static void main(String[] args) {
    steps();
    rivers();
    days();
    fromNowOn();
    shelves();
    choices();
    System.out.println(
        wrong == 0 ? sentences + " sentences hold" : wrong + " answers are not as due");
    if (wrong != 0) {
      System.exit(1);
    }
  }
}
