import java.math.BigInteger;
import java.util.ArrayList;
import java.util.List;
import java.util.Random;
import java.util.regex.Matcher;
import java.util.regex.Pattern;

/**
 * Long runs of calls with fixed seeds, each answered by the class and by a second, plain telling
 * of the document, which shares no code and no way of holding things with the class.
 */
public final class FerryBellsAgainstModel {

  // ---- the second telling

  static final class Person {
    final int sort;
    final int came;

    Person(int sort, int came) {
      this.sort = sort;
      this.came = came;
    }
  }

  static final class Boat {
    int landing;
    int left;
    int kind;
    int figure;
    List<Integer> aboard = new ArrayList<>();

    Boat again() {
      Boat b = new Boat();
      b.landing = landing;
      b.left = left;
      b.kind = kind;
      b.figure = figure;
      b.aboard = new ArrayList<>(aboard);
      return b;
    }
  }

  static final class State {
    int landings = 3;
    int[][] ways = {{0, 3, 3, 3}, {3, 0, 3, 3}, {3, 3, 0, 3}, {3, 3, 3, 0}};
    List<int[]> sorts = new ArrayList<>();
    int seats = 3;
    int z = 1;
    int minute;
    List<Boat> boats = new ArrayList<>();
    List<List<Person>> standing = new ArrayList<>();
    int waited;
    int walked;
    int earned;
    int carried;
    /** Goings still told, as numbers of LANDINGS (-1 none). */
    List<Integer> told = new ArrayList<>();

    State() {
      boats.add(new Boat());
      for (int i = 0; i < 4; i++) {
        standing.add(new ArrayList<>());
      }
    }

    State again() {
      State s = new State();
      s.landings = landings;
      s.ways = new int[4][];
      for (int i = 0; i < 4; i++) {
        s.ways[i] = ways[i].clone();
      }
      for (int[] sort : sorts) {
        s.sorts.add(sort.clone());
      }
      s.seats = seats;
      s.z = z;
      s.minute = minute;
      s.boats = new ArrayList<>();
      for (Boat b : boats) {
        s.boats.add(b.again());
      }
      for (int i = 0; i < 4; i++) {
        s.standing.set(i, new ArrayList<>(standing.get(i)));
      }
      s.waited = waited;
      s.walked = walked;
      s.earned = earned;
      s.carried = carried;
      return s;
    }

    int people() {
      return standing.get(0).size() + standing.get(1).size()
          + standing.get(2).size() + standing.get(3).size();
    }

    void minute() {
      for (int s = 0; s < sorts.size(); s++) {
        z = z * 1103515245 + 12345;
        if ((z & 0x7fffffff) / 65536 % 100 < sorts.get(s)[2]) {
          List<Person> there = standing.get(sorts.get(s)[0]);
          if (there.size() < 12) {
            there.add(new Person(s, minute));
          } else {
            walked++;
          }
        }
      }
      for (Boat b : boats) {
        if (b.left > 0 && --b.left == 0) {
          for (int i = b.aboard.size() - 1; i >= 0; i--) {
            int[] sort = sorts.get(b.aboard.get(i));
            if (sort[1] == b.landing) {
              earned += sort[4];
              carried++;
              b.aboard.remove(i);
            }
          }
        }
      }
      for (Boat b : boats) {
        while (b.left == 0 && b.aboard.size() < seats && !standing.get(b.landing).isEmpty()) {
          b.aboard.add(standing.get(b.landing).remove(0).sort);
        }
      }
      for (Boat b : boats) {
        if (b.left == 0) {
          int to = told.isEmpty() ? asks(b, b.kind) : told.remove(0);
          if (to >= 0 && to < landings && to != b.landing) {
            b.left = ways[b.landing][to];
            b.landing = to;
          }
        }
      }
      minute++;
      waited += people();
      for (List<Person> there : standing) {
        for (int i = there.size() - 1; i >= 0; i--) {
          if (minute - there.get(i).came >= sorts.get(there.get(i).sort)[3]) {
            there.remove(i);
            walked++;
          }
        }
      }
    }

    int asks(Boat b, int kind) {
      int first = b.aboard.isEmpty() ? -1 : sorts.get(b.aboard.get(0))[1];
      boolean turn = minute % (b.figure + 1) == 0;
      if (kind == 0) {
        return first;
      }
      if (kind == 1) {
        return turn ? (b.landing + 1) % landings : -1;
      }
      if (kind == 6) {
        return turn ? b.figure % landings : -1;
      }
      if (kind == 4) {
        boolean none = true;
        for (int[] sort : sorts) {
          none &= sort[0] != b.landing || sort[2] == 0;
        }
        return b.aboard.size() > b.figure || b.aboard.size() == seats || none ? first : -1;
      }
      if (!b.aboard.isEmpty()) {
        if (kind != 5) {
          return first;
        }
        int[] bound = new int[4];
        for (int s : b.aboard) {
          bound[sorts.get(s)[1]]++;
        }
        return firstGreatest(bound);
      }
      int[] calls = new int[4];
      for (int l = 0; l < 4; l++) {
        if (l != b.landing) {
          for (Person p : standing.get(l)) {
            calls[l] = kind == 2 ? Math.max(calls[l], 1 + minute - p.came) : calls[l] + 1;
          }
        }
      }
      int to = firstGreatest(calls);
      return calls[to] > b.figure ? to : -1;
    }

    static int firstGreatest(int[] row) {
      int at = 0;
      for (int i = 1; i < row.length; i++) {
        if (row[i] > row[at]) {
          at = i;
        }
      }
      return at;
    }

    State day(int kind, int figure, int landing, int z) {
      State s = again();
      s.z = z;
      s.minute = 0;
      s.waited = 0;
      s.walked = 0;
      s.earned = 0;
      s.carried = 0;
      for (List<Person> there : s.standing) {
        there.clear();
      }
      s.boats.clear();
      s.second(kind, figure, landing);
      return s;
    }

    void second(int kind, int figure, int landing) {
      Boat b = new Boat();
      b.kind = kind;
      b.figure = figure;
      b.landing = landing;
      boats.add(b);
    }

    State gone(int n) {
      for (int i = 0; i < n; i++) {
        minute();
      }
      return this;
    }

    int what(int what) {
      return new int[] {waited, walked, earned, carried}[what];
    }

    boolean does(String statement) {
      String[] words = statement.substring(1, statement.length() - 1).split(" ");
      int a = words[0].charAt(0) - '0';
      int b = words[0].length() > 1 ? words[0].charAt(1) - '0' : -1;
      switch (statement.charAt(0)) {
        case 'n':
          boolean ok = a >= 2 && a <= 4 && people() == 0 && boats.get(0).aboard.isEmpty()
              && boats.get(0).landing < a;
          for (int[] sort : sorts) {
            ok &= Math.max(sort[0], sort[1]) < a;
          }
          if (ok) {
            landings = a;
          }
          return ok;
        case 'b':
          if (a < 1 || a > 6 || a < boats.get(0).aboard.size()) {
            return false;
          }
          seats = a;
          return true;
        case 'm':
          if (a == b || a >= landings || b >= landings || words[1].equals("0")) {
            return false;
          }
          ways[a][b] = words[1].charAt(0) - '0';
          ways[b][a] = ways[a][b];
          return true;
        default:
          int comes = Integer.parseInt(words[1]);
          int waits = Integer.parseInt(words[2]);
          int pays = Integer.parseInt(words[3]);
          if (a == b || a >= landings || b >= landings || comes > 100 || waits < 1
              || waits > 20 || pays > 99 || sorts.size() == 5) {
            return false;
          }
          sorts.add(new int[] {a, b, comes, waits, pays});
          return true;
      }
    }
  }

  static final class Shelf {
    int holds;
    int kind;
    int figure;
    int sort;
    int[] row;
  }

  static final String ONE =
      "(?:[nb]\\d|m\\d\\d \\d|s\\d\\d (?:0|[1-9]\\d{0,2}) (?:0|[1-9]\\d{0,2}) (?:0|[1-9]\\d{0,2}));";
  static final Pattern RIVER = Pattern.compile("(?:" + ONE + ")+");
  static final Pattern STATEMENT = Pattern.compile(ONE);

  static final class Model {
    State now = new State();
    State image;
    Shelf[] shelves = new Shelf[8];

    Model() {
      for (int i = 0; i < 8; i++) {
        shelves[i] = new Shelf();
      }
    }

    int want(int d, int holds, int sort) {
      if (d < 0 || d > 7) {
        return -1;
      }
      if (shelves[d].holds == 0) {
        return -11;
      }
      return shelves[d].holds == holds && (sort < 0 || shelves[d].sort == sort) ? 0 : -12;
    }

    boolean land(int l) {
      return l >= 0 && l < now.landings;
    }

    static boolean in(int v, int low, int high) {
      return v >= low && v <= high;
    }

    int river(int d) {
      int r = want(d, 2, 0);
      if (r != 0) {
        return r;
      }
      StringBuilder b = new StringBuilder();
      for (int v : shelves[d].row) {
        b.append((char) (v & 255));
      }
      String text = b.toString();
      for (int i = 1; i <= text.length(); i++) {
        Matcher m = RIVER.matcher(text.substring(0, i));
        if (!m.matches() && !m.hitEnd()) {
          return -1000 - (i - 1);
        }
      }
      if (!RIVER.matcher(text).matches()) {
        return -1000 - text.length();
      }
      State next = now.again();
      Matcher m = STATEMENT.matcher(text);
      int n = 0;
      while (m.find()) {
        if (!next.does(m.group())) {
          return -2000 - m.start();
        }
        n++;
      }
      now = next;
      return n;
    }

    int mean(int kind, int figure, int landing, int minutes, int n, int z) {
      int sum = 0;
      for (int i = 0; i < n; i++) {
        State s = now.day(kind, figure, landing, z + i).gone(minutes);
        sum += s.earned - s.waited;
      }
      return sum;
    }

    int goings(int told, int minutes) {
      State s = now.again();
      for (int i = 0, t = told; i < 4; i++, t /= 5) {
        s.told.add(t % 5 - 1);
      }
      s.gone(minutes);
      return s.earned - s.waited - now.earned + now.waited;
    }

    long call(String name, int[] a) {
      switch (name) {
        case "river": return river(a[0]);
        case "minutes":
          return land(a[0]) && land(a[1]) && a[0] != a[1] ? now.ways[a[0]][a[1]] : -1;
        case "sort":
          return in(a[0], 0, now.sorts.size() - 1) && in(a[1], 0, 4)
              ? now.sorts.get(a[0])[a[1]] : -1;
        case "comes": {
          if (!in(a[0], 0, now.sorts.size() - 1) || !in(a[1], 0, 100)) {
            return -1;
          }
          int was = now.sorts.get(a[0])[2];
          now.sorts.get(a[0])[2] = a[1];
          return was;
        }
        case "set": {
          if (a[0] == 1) {
            int was = now.z;
            now.z = a[1];
            return was;
          }
          if (a[0] != 0 || !in(a[1], 1, 6)) {
            return -1;
          }
          if (a[1] < now.boats.get(0).aboard.size()) {
            return -3;
          }
          int was = now.seats;
          now.seats = a[1];
          return was;
        }
        case "rule": {
          int r = want(a[0], 1, -1);
          if (r != 0) {
            return r;
          }
          now.boats.get(0).kind = shelves[a[0]].kind;
          now.boats.get(0).figure = shelves[a[0]].figure;
          return shelves[a[0]].kind;
        }
        case "go":
          if (!in(a[0], 1, 60)) {
            return -1;
          }
          return now.minute + a[0] > 999 ? -2 : now.gone(a[0]).minute;
        case "tell": {
          Boat b = now.boats.get(0);
          if (!land(a[0])) {
            return -1;
          }
          if (b.left > 0 || b.landing == a[0]) {
            return -3;
          }
          b.left = now.ways[b.landing][a[0]];
          b.landing = a[0];
          return b.left;
        }
        case "boat": {
          Boat b = now.boats.get(0);
          if (!in(a[0], 0, 4)) {
            return -1;
          }
          return new int[] {b.left > 0 ? -4 : b.landing, b.left > 0 ? b.landing : -4, b.left,
              b.aboard.size(), b.kind}[a[0]];
        }
        case "stand": {
          if (!land(a[0]) || a[1] < -1 || !in(a[2], 0, 1)) {
            return -1;
          }
          List<Person> there = now.standing.get(a[0]);
          if (a[1] == -1) {
            return there.size();
          }
          if (a[1] >= there.size()) {
            return -4;
          }
          Person p = there.get(a[1]);
          return a[2] == 0 ? p.sort : now.minute - p.came;
        }
        case "aboard": {
          List<Integer> aboard = now.boats.get(0).aboard;
          return a[0] < 0 ? -1 : a[0] < aboard.size() ? aboard.get(a[0]) : -4;
        }
        case "told": return in(a[0], 0, 3) ? now.what(a[0]) : -1;
        default: return mindCall(name, a);
      }
    }

    long mindCall(String name, int[] a) {
      int low = -1000000000;
      int r = want(a[0], 1, -1);
      int kind = r == 0 ? shelves[a[0]].kind : 0;
      int figure = r == 0 ? shelves[a[0]].figure : 0;
      switch (name) {
        case "day":
          if (!land(a[1]) || !in(a[2], 1, 120) || !in(a[4], 0, 3)) {
            return -1;
          }
          return r != 0 ? r : now.day(kind, figure, a[1], a[3]).gone(a[2]).what(a[4]);
        case "mean":
          if (!land(a[1]) || !in(a[2], 1, 120) || !in(a[3], 1, 10)) {
            return low - 1;
          }
          return r != 0 ? low + r : mean(kind, figure, a[1], a[2], a[3], a[4]);
        case "best": {
          if (!in(a[1], 0, 9) || !in(a[2], 1, 120) || !in(a[3], 1, 10)) {
            return -1;
          }
          r = want(a[0], 2, 0);
          if (r != 0) {
            return r;
          }
          int[] row = shelves[a[0]].row;
          if (!in(row.length, 1, 7)) {
            return -13;
          }
          for (int k : row) {
            if (!in(k, 0, 6)) {
              return -13;
            }
          }
          int[] means = new int[row.length];
          for (int i = 0; i < row.length; i++) {
            means[i] = mean(row[i], a[1], 0, a[2], a[3], a[4]);
          }
          return State.firstGreatest(means);
        }
        case "where": {
          if (!in(a[1], 1, 120) || !in(a[2], 1, 10)) {
            return -1;
          }
          if (r != 0) {
            return r;
          }
          int[] means = new int[now.landings];
          for (int i = 0; i < means.length; i++) {
            means[i] = mean(kind, figure, i, a[1], a[2], a[3]);
          }
          return State.firstGreatest(means);
        }
        case "enough":
          if (!land(a[1]) || !in(a[2], 1, 120)) {
            return -1;
          }
          if (r != 0) {
            return r;
          }
          for (int seats = 1; seats <= 6; seats++) {
            State s = now.day(kind, figure, a[1], a[3]);
            s.seats = seats;
            if (s.gone(a[2]).walked == 0) {
              return seats;
            }
          }
          return -4;
        case "lantern": {
          if (!land(a[1]) || !in(a[2], 1, 120) || !in(a[4], 0, 20)) {
            return low - 1;
          }
          if (r != 0) {
            return low + r;
          }
          State s = now.day(kind, figure, a[1], a[3]);
          State t = s.again();
          for (int[] sort : t.sorts) {
            sort[3] = Math.min(20, sort[3] + a[4]);
          }
          return s.gone(a[2]).walked - t.gone(a[2]).walked;
        }
        case "price": {
          if (!in(a[1], 0, now.sorts.size() - 1) || !in(a[2], 1, 120) || !in(a[4], 0, 99)) {
            return low - 1;
          }
          if (r != 0) {
            return low + r;
          }
          State s = now.day(kind, figure, 0, a[3]);
          State t = s.again();
          int[] sort = t.sorts.get(a[1]);
          sort[4] = Math.min(99, sort[4] + a[4]);
          sort[3] = Math.max(1, sort[3] - a[4] / 10);
          return t.gone(a[2]).earned - s.gone(a[2]).earned;
        }
        case "son": {
          if (!land(a[1]) || !land(a[2]) || a[1] == a[2] || !in(a[3], 1, 120)) {
            return low - 1;
          }
          if (r != 0) {
            return low + r;
          }
          State s = now.day(kind, figure, a[1], a[4]);
          State t = s.again();
          t.second(kind, figure, a[2]);
          return s.gone(a[3]).waited - t.gone(a[3]).waited;
        }
        default: return aheadCall(name, a);
      }
    }

    long aheadCall(String name, int[] a) {
      switch (name) {
        case "goings":
          return in(a[0], 0, 624) && in(a[1], 1, 120) ? goings(a[0], a[1]) : -1000000001;
        case "bestGoings": {
          if (!in(a[0], 1, 120)) {
            return -1;
          }
          int[] gains = new int[625];
          for (int i = 0; i < 625; i++) {
            gains[i] = goings(i, a[0]);
          }
          return State.firstGreatest(gains);
        }
        case "nobody": {
          if (!land(a[0]) || !in(a[1], 0, 4) || !in(a[2], 0, 1)) {
            return -4000000000000000001L;
          }
          int n = 0;
          BigInteger above = BigInteger.ONE;
          for (int[] sort : now.sorts) {
            if (sort[0] == a[0]) {
              n += a[1];
              above = above.multiply(BigInteger.valueOf(100 - sort[2]).pow(a[1]));
            }
          }
          if (n > 8) {
            return -4000000000000000003L;
          }
          BigInteger below = BigInteger.valueOf(100).pow(n);
          return (a[2] == 0 ? above : below).divide(above.gcd(below)).longValueExact();
        }
        case "judge": {
          if (!land(a[0])) {
            return -1;
          }
          int r = want(a[1], 2, -1);
          if (r != 0) {
            return r;
          }
          State s = now.again();
          int least = new int[] {Byte.MIN_VALUE, Short.MIN_VALUE, Integer.MIN_VALUE}[
              shelves[a[1]].sort];
          int[] row = shelves[a[1]].row;
          for (int i = 0; i < row.length; i++) {
            s.minute();
            if (row[i] != least && row[i] != s.standing.get(a[0]).size()) {
              return i;
            }
          }
          return -4;
        }
        case "image":
          image = now.again();
          return now.minute;
        case "restore":
          if (image == null) {
            return -3;
          }
          now = image.again();
          return now.minute;
        case "count": {
          int comes = 0;
          for (int[] sort : now.sorts) {
            comes += sort[2];
          }
          return in(a[0], 0, 5) ? new int[] {now.landings, now.sorts.size(), now.seats,
              now.minute, now.people(), comes}[a[0]] : -1;
        }
        default: return shelfCall(name, a);
      }
    }

    long shelfCall(String name, int[] a) {
      Shelf s = in(a[0], 0, 7) ? shelves[a[0]] : null;
      switch (name) {
        case "keep": {
          if (s == null || !in(a[1], 0, 1)
              || a[1] == 1 && (!in(a[2], 0, 6) || !in(a[3], 0, 9))) {
            return -1;
          }
          shelves[a[0]] = new Shelf();
          shelves[a[0]].holds = a[1];
          shelves[a[0]].kind = a[2];
          shelves[a[0]].figure = a[3];
          return 0;
        }
        case "row":
          if (s == null || !in(a[1], 0, 2) || a[2] > 100) {
            return -1;
          }
          if (a[2] < 0) {
            return -14;
          }
          shelves[a[0]] = new Shelf();
          shelves[a[0]].holds = 2;
          shelves[a[0]].sort = a[1];
          shelves[a[0]].row = new int[a[2]];
          return 0;
        case "put": {
          int r = want(a[0], 2, -1);
          if (r != 0 || s == null) {
            return r;
          }
          if (!in(a[1], 0, s.row.length - 1)) {
            return -13;
          }
          s.row[a[1]] = s.sort == 0 ? (byte) a[2] : s.sort == 1 ? (short) a[2] : a[2];
          return 0;
        }
        case "element":
          if (s == null) {
            return Long.MIN_VALUE + 1;
          }
          return s.holds != 2 || !in(a[1], 0, s.row.length - 1)
              ? Long.MIN_VALUE + 2 : s.row[a[1]];
        case "copy": {
          Shelf t = in(a[2], 0, 7) ? shelves[a[2]] : null;
          if (s == null || t == null) {
            return -1;
          }
          if (s.holds == 0 || t.holds == 0) {
            return -11;
          }
          if (s.holds != 2 || t.holds != 2 || s.sort != t.sort) {
            return -12;
          }
          if (a[1] < 0 || a[3] < 0 || a[4] < 0 || (long) a[1] + a[4] > s.row.length
              || (long) a[3] + a[4] > t.row.length) {
            return -13;
          }
          int[] old = s.row.clone();
          for (int i = 0; i < a[4]; i++) {
            t.row[a[3] + i] = old[a[1] + i];
          }
          return a[4];
        }
        case "care": {
          int r = want(a[0], 1, -1);
          return r != 0 || s == null ? -1000000000 + r : care(s.kind, s.figure);
        }
        case "toss": {
          int r = want(a[0], 1, -1);
          if (r != 0 || s == null) {
            return r;
          }
          if (s.kind == 4 || s.figure == 0) {
            return -15;
          }
          return s.kind == 6 ? 200 + care(6, s.figure)
              : s.figure + (s.kind == 3 || s.kind == 5 ? 100 : 0);
        }
        default: throw new IllegalStateException(name);
      }
    }

    static int care(int kind, int figure) {
      return new int[] {5, 5 + figure, 10, 11, 5 - figure, 11 + figure, (5 + figure) / 2}[kind];
    }
  }

  // ---- the class's own answers

  static long ask(FerryBells x, String name, int[] a) {
    switch (name) {
      case "river": return x.river(a[0]);
      case "minutes": return x.minutes(a[0], a[1]);
      case "sort": return x.sort(a[0], a[1]);
      case "comes": return x.comes(a[0], a[1]);
      case "set": return x.set(a[0], a[1]);
      case "rule": return x.rule(a[0]);
      case "go": return x.go(a[0]);
      case "tell": return x.tell(a[0]);
      case "boat": return x.boat(a[0]);
      case "stand": return x.stand(a[0], a[1], a[2]);
      case "aboard": return x.aboard(a[0]);
      case "told": return x.told(a[0]);
      case "day": return x.day(a[0], a[1], a[2], a[3], a[4]);
      case "mean": return x.mean(a[0], a[1], a[2], a[3], a[4]);
      case "best": return x.best(a[0], a[1], a[2], a[3], a[4]);
      case "where": return x.where(a[0], a[1], a[2], a[3]);
      case "enough": return x.enough(a[0], a[1], a[2], a[3]);
      case "lantern": return x.lantern(a[0], a[1], a[2], a[3], a[4]);
      case "price": return x.price(a[0], a[1], a[2], a[3], a[4]);
      case "son": return x.son(a[0], a[1], a[2], a[3], a[4]);
      case "goings": return x.goings(a[0], a[1]);
      case "bestGoings": return x.bestGoings(a[0]);
      case "nobody": return x.nobody(a[0], a[1], a[2]);
      case "judge": return x.judge(a[0], a[1]);
      case "image": return x.image();
      case "restore": return x.restore();
      case "count": return x.count(a[0]);
      case "keep": return x.keep(a[0], a[1], a[2], a[3]);
      case "row": return x.row(a[0], a[1], a[2]);
      case "put": return x.put(a[0], a[1], a[2]);
      case "element":
        try {
          return x.element(a[0], a[1]);
        } catch (IllegalArgumentException e) {
          return Long.MIN_VALUE + 1;
        } catch (IllegalStateException e) {
          return Long.MIN_VALUE + 2;
        }
      case "copy": return x.copy(a[0], a[1], a[2], a[3], a[4]);
      case "care": return x.care(a[0]);
      case "toss": return x.toss(a[0]);
      default: throw new IllegalStateException(name);
    }
  }

  // ---- the runs

  /** Each call's arguments by letters: the range that a letter tells is met most of the time. */
  static final String[][] CALLS = {
    {"river", "d"}, {"minutes", "ll"}, {"sort", "sw"}, {"comes", "sc"}, {"set", "1b"},
    {"set", "1z"}, {"rule", "d"}, {"go", "g"}, {"go", "b"}, {"go", "b"}, {"tell", "l"},
    {"boat", "w"}, {"stand", "li1"}, {"stand", "li1"}, {"aboard", "i"}, {"told", "w"},
    {"day", "dltzw"}, {"mean", "dltnz"}, {"best", "dftnz"}, {"where", "dtnz"},
    {"enough", "dltz"}, {"lantern", "dltzv"}, {"price", "dstzc"}, {"son", "dlltz"},
    {"goings", "ot"}, {"bestGoings", "b"}, {"nobody", "lw1"}, {"judge", "ld"}, {"image", ""},
    {"restore", ""}, {"count", "w"}, {"keep", "d1wf"}, {"keep", "d1wf"}, {"row", "dwr"},
    {"put", "dpc"}, {"put", "dpz"}, {"element", "dp"}, {"copy", "dpdpp"}, {"care", "d"},
    {"toss", "d"},
  };

  static final int[] ODD = {-2147483648, -129, -2, -1, 0, 7, 8, 13, 21, 61, 100, 101, 121, 127,
    128, 255, 625, 32768, 65536, 2147483647};

  static int argument(Random r, char letter) {
    if (r.nextInt(25) == 0) {
      return ODD[r.nextInt(ODD.length)];
    }
    switch (letter) {
      case 'd': return r.nextInt(8);
      case 'l': return r.nextInt(r.nextInt(5) == 0 ? 5 : 3);
      case 's': return r.nextInt(6);
      case 'w': return r.nextInt(7);
      case '1': return r.nextInt(r.nextInt(6) == 0 ? 3 : 2);
      case 'b': return 1 + r.nextInt(6);
      case 'c': return r.nextInt(101);
      case 'z': return r.nextInt();
      case 'g': return 1 + r.nextInt(60);
      case 'i': return r.nextInt(8) - 1;
      case 't': return 1 + r.nextInt(r.nextInt(3) == 0 ? 120 : 30);
      case 'n': return 1 + r.nextInt(4);
      case 'f': return r.nextInt(10);
      case 'v': return r.nextInt(21);
      case 'o': return r.nextInt(625);
      case 'r': return r.nextInt(r.nextInt(3) == 0 ? 101 : 9);
      default: return r.nextInt(9);
    }
  }

  static String statement(Random r) {
    int a = r.nextInt(r.nextInt(4) == 0 ? 5 : 3);
    int b = r.nextInt(4) == 0 ? r.nextInt(5) : (a + 1 + r.nextInt(2)) % 3;
    switch (r.nextInt(6)) {
      case 0: return "n" + (1 + r.nextInt(5)) + ";";
      case 1: return "b" + (r.nextInt(12) == 0 ? r.nextInt(10) : 1 + r.nextInt(6)) + ";";
      case 2: return "m" + a + b + " " + r.nextInt(10) + ";";
      default:
        return "s" + a + b + " " + r.nextInt(r.nextInt(9) == 0 ? 120 : 60) + " "
            + (r.nextInt(9) == 0 ? 18 + r.nextInt(5) : 1 + r.nextInt(12)) + " "
            + (r.nextInt(9) == 0 ? 95 + r.nextInt(10) : r.nextInt(40)) + ";";
    }
  }

  static String riverText(Random r) {
    StringBuilder b = new StringBuilder();
    int n = 1 + r.nextInt(4);
    for (int i = 0; i < n; i++) {
      b.append(statement(r));
    }
    if (r.nextInt(4) == 0) {
      int i = r.nextInt(b.length());
      switch (r.nextInt(3)) {
        case 0: b.setCharAt(i, "0123456789 ;mnsb\u00e9\u0000".charAt(r.nextInt(18))); break;
        case 1: b.deleteCharAt(i); break;
        default: b.insert(i, "0123456789 ;mnsb\u00e9\u0000".charAt(r.nextInt(18)));
      }
    }
    return b.toString();
  }

  static final int MOST_CALLS = 512;

  static int wrong = 0;
  static int calls = 0;

  /** What calls behind the last one that is promised answer is free. */
  static void both(FerryBells x, Model m, long seed, String name, int[] a) {
    if (calls >= MOST_CALLS) {
      return;
    }
    calls++;
    long got = ask(x, name, a);
    long due = m.call(name, a);
    if (got != due) {
      wrong++;
      if (wrong < 20) {
        System.out.println("run " + seed + ": " + name + java.util.Arrays.toString(a)
            + " answered " + got + ", due is " + due);
      }
    }
  }

  /** All that can be asked without a change, so that a refused call's change would be seen. */
  static void lookAround(FerryBells x, Model m, long seed) {
    for (int i = 0; i < 5; i++) {
      both(x, m, seed, "boat", args(i));
      both(x, m, seed, "told", args(i));
      both(x, m, seed, "count", args(i));
      both(x, m, seed, "aboard", args(i));
      for (int k = 0; k < 4; k++) {
        both(x, m, seed, "sort", args(i, k));
        both(x, m, seed, "minutes", args(i, k));
        both(x, m, seed, "stand", args(k, i - 1, 0));
        both(x, m, seed, "stand", args(k, i - 1, 1));
      }
    }
  }

  static int[] args(int... given) {
    return java.util.Arrays.copyOf(given, 5);
  }

  static void readText(FerryBells x, Model m, long seed, Random r) {
    String text = riverText(r);
    if (text.length() > 100) {
      return;
    }
    int d = r.nextInt(8);
    both(x, m, seed, "row", args(d, 0, text.length()));
    for (int i = 0; i < text.length(); i++) {
      both(x, m, seed, "put", args(d, i, text.charAt(i)));
    }
    both(x, m, seed, "river", args(d));
  }

  static void run(long seed) {
    Random r = new Random(seed);
    FerryBells x = new FerryBells();
    Model m = new Model();
    calls = 0;
    for (int i = r.nextInt(4); i >= 0; i--) {
      readText(x, m, seed, r);
    }
    while (calls < MOST_CALLS - 110 && wrong < 20) {
      if (r.nextInt(12) == 0) {
        readText(x, m, seed, r);
        continue;
      }
      String[] call = CALLS[r.nextInt(CALLS.length)];
      int[] a = new int[5];
      for (int k = 0; k < call[1].length(); k++) {
        a[k] = argument(r, call[1].charAt(k));
      }
      both(x, m, seed, call[0], a);
      if (r.nextInt(100) == 0) {
        lookAround(x, m, seed);
      }
    }
    lookAround(x, m, seed);
  }

  public static void main(String[] args) {
    int runs = args.length > 0 ? Integer.parseInt(args[0]) : 400;
    for (long seed = 0; seed < runs && wrong < 20; seed++) {
      run(seed);
    }
    System.out.println(wrong == 0 ? "both tellings answer alike" : wrong + " answers differ");
    if (wrong != 0) {
      System.exit(1);
    }
  }
}
