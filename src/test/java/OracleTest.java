import java.math.BigInteger;
import java.util.ArrayList;
import java.util.Arrays;
import java.util.LinkedHashMap;
import java.util.List;
import java.util.Map;
import java.util.Random;

/**
 * Runs of random calls, answered by BellSchool and by SlowSchool, which does what the document
 * says in the slowest and most literal way: maps of texts, rows tried one by one, chances by
 * going through all sets of absent children.
 */
public final class OracleTest {
  private static final int RUNS = 1200;
  private static int wrong = 0;

  public static void main(String[] args) {
    int[] asked = new int[29];
    int[] answered = new int[29];
    for (int run = 0; run < RUNS && wrong < 20; run++) {
      oneRun(run, asked, answered);
    }
    for (int i = 1; i < 29; i++) {
      if (answered[i] < 100) {
        wrong++;
        System.out.println("call " + i + " was answered only " + answered[i] + " of " + asked[i] + " times");
      }
    }
    System.out.println(wrong == 0 ? "oracle: all answers are alike" : "oracle: " + wrong + " are not");
    if (wrong != 0) {
      System.exit(1);
    }
  }

  private static void oneRun(int run, int[] asked, int[] answered) {
    Random r = new Random(run);
    BellSchool fast = new BellSchool();
    SlowSchool slow = new SlowSchool();
    StringBuilder trace = new StringBuilder();
    int calls = 0;
    boolean wild = r.nextInt(4) == 0;
    while (calls < 512) {
      if (calls == 0 && r.nextInt(5) > 0 || r.nextInt(250) == 0) {
        String text = r.nextInt(4) == 0 ? spoilt(r, Texts.any(r)) : Texts.any(r);
        if (calls + text.length() + 3 > 512) {
          break;
        }
        trace.append("wipe; text ").append(text).append("; fault; lay; ");
        fast.wipe();
        slow.text = "";
        for (char letter : text.toCharArray()) {
          if (fast.write(letter) != slow.write(letter)) {
            tell(run, trace, "write " + letter);
            return;
          }
        }
        calls += text.length() + 3;
        if (fast.fault() != slow.fault() || fast.lay() != slow.lay()) {
          tell(run, trace, "fault, lay: " + fast.fault() + " " + slow.fault());
          return;
        }
      }
      int call = 1 + r.nextInt(28);
      if (call <= 3 && r.nextInt(3) > 0 || call == 5 && r.nextInt(4) > 0) {
        continue;
      }
      long[] n = new long[4];
      for (int i = 0; i < 4; i++) {
        n[i] = argument(r, call, i, wild);
      }
      trace.append(call).append(Arrays.toString(n)).append("; ");
      long want = slow.answer(call, (int) n[0], (int) n[1], (int) n[2], (int) n[3]);
      long got;
      try {
        got = fastAnswer(fast, call, (int) n[0], (int) n[1], (int) n[2], (int) n[3]);
      } catch (RuntimeException e) {
        tell(run, trace, "threw " + e);
        return;
      }
      asked[call]++;
      answered[call] += want >= 0 ? 1 : 0;
      calls++;
      if (got != want) {
        tell(run, trace, "answered " + got + ", due is " + want);
        return;
      }
    }
    for (int i = 0; i < 7; i++) {
      for (int what = 0; what < 7; what++) {
        if (fast.home(i, what) != slow.answer(6, i, what, 0, 0)) {
          tell(run, trace, "at the end home " + i + " " + what);
        }
      }
    }
  }

  private static void tell(int run, StringBuilder trace, String what) {
    wrong++;
    System.out.println("run " + run + ": " + what + " behind " + trace);
  }

  private static final int[] EXTREMES = {
    Integer.MIN_VALUE, Integer.MAX_VALUE, -1, -2, 7, 8, 28, 29, 60, 61, 127, 128, 10000, 1 << 30, -28};

  private static long argument(Random r, int call, int place, boolean wild) {
    if (wild && r.nextInt(6) == 0) {
      return EXTREMES[r.nextInt(EXTREMES.length)];
    }
    boolean home = call == 6 && place == 0 || call == 7 && place < 2 || call == 8 || call == 9
        || call == 12 || call == 13 || call == 14 || call == 21 && place == 0 || call == 25 && place == 0;
    if (home) {
      return r.nextInt(r.nextInt(6) == 0 ? 9 : 6) - (r.nextInt(30) == 0 ? 1 : 0);
    }
    switch (call) {
      case 2: return r.nextInt(5) == 0 ? r.nextInt(140) : "hwsbn0123456789,;".charAt(r.nextInt(17));
      case 6: return r.nextInt(8);
      case 7: return r.nextInt(3);
      case 11: return r.nextInt(3) == 0 ? r.nextInt(31) : 1 + r.nextInt(3);
      case 16: return r.nextInt(63) - 1;
      case 18: return r.nextInt(r.nextInt(4) == 0 ? 31 : 9);
      case 21: return r.nextInt(r.nextInt(4) == 0 ? 31 : 5);
      case 25: return place == 1 ? r.nextInt(4) : place == 2 ? r.nextInt(12) : r.nextInt(3) % 3;
      case 26: return place == 0 ? r.nextInt(10002) : place == 1 ? r.nextInt(63) : r.nextInt(3);
      default: return r.nextInt(13);
    }
  }

  /** The calls by the numbers of their promises, but for the first. */
  private static long fastAnswer(BellSchool x, int call, int a, int b, int c, int d) {
    switch (call) {
      case 1: return x.count(a);
      case 2: return x.write(a);
      case 3: return x.wipe();
      case 4: return x.fault();
      case 5: return x.lay();
      case 6: return x.home(a, b);
      case 7: return x.way(a, b, c);
      case 8: return x.far(a, b);
      case 9: return x.comes(a);
      case 10: return x.last();
      case 11: return x.pass(a);
      case 12: return x.keepBack(a);
      case 13: return x.sick(a);
      case 14: return x.shut(a, b);
      case 15: return x.undo();
      case 16: return x.behind(a);
      case 17: return x.again();
      case 18: return x.each(a);
      case 19: return x.always();
      case 20: return x.never();
      case 21: return x.see(a, b);
      case 22: return x.forget();
      case 23: return x.fog();
      case 24: return x.tripped();
      case 25: return x.measles(a, b, c, d);
      case 26: return x.year(a, b, c);
      case 27: return x.keep();
      default: return x.back();
    }
  }

  private static String spoilt(Random r, String text) {
    StringBuilder b = new StringBuilder(text);
    for (int i = 0; i < 1 + r.nextInt(2) && b.length() > 0; i++) {
      int at = r.nextInt(b.length());
      switch (r.nextInt(4)) {
        case 0: b.deleteCharAt(at); break;
        case 1: b.insert(at, (char) (32 + r.nextInt(95))); break;
        case 2: b.setCharAt(at, "0123456789,;hwsbn".charAt(r.nextInt(17))); break;
        default: b.setLength(at); break;
      }
    }
    return b.toString();
  }

  /** Texts at random. */
  private static final class Texts {
    static String any(Random r) {
      StringBuilder b = new StringBuilder();
      int homes = r.nextInt(20) == 0 ? 0 : 1 + r.nextInt(7);
      int lateness = r.nextInt(3) == 0 ? 1 : r.nextInt(2) == 0 ? 41 : 10;
      for (int i = 0; i < homes; i++) {
        b.append('h').append(r.nextInt(4)).append(',').append(figures(r, r.nextInt(lateness))).append(';');
      }
      int longest = r.nextInt(2) == 0 ? 60 : 8;
      int ways = homes < 2 ? 0 : r.nextInt(homes * 2 + 2);
      for (int i = 0; i < ways; i++) {
        pair(r, b, 'w', homes).append(1 + r.nextInt(longest)).append(';');
      }
      int snows = homes < 2 ? 0 : r.nextInt(5);
      for (int i = 0; i < snows; i++) {
        int from = r.nextInt(28);
        int to = from + r.nextInt(28 - from);
        pair(r, b, 's', homes).append(figures(r, from)).append(',').append(figures(r, to)).append(';');
      }
      for (int i = 0; homes > 0 && i < r.nextInt(3); i++) {
        b.append('b').append(r.nextInt(r.nextInt(10) == 0 ? 7 : homes)).append(';');
      }
      for (int i = 0; i < r.nextInt(3); i++) {
        b.append('n').append(figures(r, r.nextInt(3) == 0 ? 1 + r.nextInt(99) : 99)).append(';');
      }
      if (b.length() > 200) {
        b.setLength(200);
        b.setLength(b.lastIndexOf(";") + 1);
      }
      return b.toString();
    }

    private static String figures(Random r, int n) {
      return n < 10 && r.nextInt(4) == 0 ? "0" + n : "" + n;
    }

    private static StringBuilder pair(Random r, StringBuilder b, char letter, int homes) {
      int one = r.nextInt(homes);
      int other = (one + 1 + r.nextInt(homes - 1)) % homes;
      return b.append(letter).append(one).append(',').append(other).append(',');
    }
  }

  /** The document, word by word. */
  private static final class SlowSchool {
    private static final int BAD = -1, NO = -2, FULL = -3, NONE = -4;
    String text = "h0,5;h1,10;h2,8;h0,20;h3,0;h0,12;w0,1,10;w1,2,15;w2,3,20;w3,4,10;w4,0,25;w4,5,8;"
        + "w2,5,30;s0,1,3,9;s4,5,5,6;b0;n55;";
    List<int[]> children = new ArrayList<>();
    Map<String, Integer> ways = new LinkedHashMap<>();
    Map<String, int[]> snows = new LinkedHashMap<>();
    int limit = 60;
    State now = new State();
    List<State> undoable = new ArrayList<>();
    List<State> kept = new ArrayList<>();
    List<int[]> seen = new ArrayList<>();

    private static final class State {
      int day = 0;
      int bell = 0;
      List<Integer> held = new ArrayList<>();
      List<Integer> sick = new ArrayList<>();
      List<String> shut = new ArrayList<>();
      List<Integer> had = new ArrayList<>();
      int[] soups = new int[7];

      State twin() {
        State t = new State();
        t.day = day;
        t.bell = bell;
        t.held.addAll(held);
        t.sick.addAll(sick);
        t.shut.addAll(shut);
        t.had.addAll(had);
        t.soups = soups.clone();
        return t;
      }
    }

    SlowSchool() {
      lay();
      text = "";
    }

    private static String pair(int a, int b) {
      return a < b ? a + "-" + b : b + "-" + a;
    }

    int write(int letter) {
      if (letter < ' ' || letter > '~') {
        return BAD;
      }
      if (text.length() == 200) {
        return FULL;
      }
      text += (char) letter;
      return text.length();
    }

    /** Where the first fault is; puts what is read into the lists given. */
    private int read(List<int[]> kids, Map<String, Integer> roads, Map<String, int[]> snow, int[] bellAndLimit) {
      int at = 0;
      while (at < text.length()) {
        int end = text.indexOf(';', at);
        if (end < 0) {
          return at;
        }
        String item = text.substring(at, end);
        if (!item.matches("[a-z][0-9]{1,2}(,[0-9]{1,2})*")) {
          return at;
        }
        String[] parts = item.substring(1).split(",");
        int[] n = new int[parts.length];
        for (int i = 0; i < n.length; i++) {
          n[i] = Integer.parseInt(parts[i]);
        }
        if (!take(item.charAt(0), n, kids, roads, snow, bellAndLimit)) {
          return at;
        }
        at = end + 1;
      }
      return NONE;
    }

    private boolean take(char letter, int[] n, List<int[]> kids, Map<String, Integer> roads,
        Map<String, int[]> snow, int[] bellAndLimit) {
      boolean two = n.length > 1 && n[0] < kids.size() && n[1] < kids.size() && n[0] != n[1];
      if (letter == 'h' && n.length == 2 && n[0] <= 3 && n[1] <= 40 && kids.size() < 7) {
        kids.add(n);
        return true;
      }
      if (letter == 'w' && n.length == 3 && two && n[2] >= 1 && n[2] <= 60) {
        roads.put(pair(n[0], n[1]), n[2]);
        return true;
      }
      if (letter == 's' && n.length == 4 && two && n[2] <= n[3] && n[3] <= 27) {
        snow.put(pair(n[0], n[1]), new int[] {n[2], n[3]});
        return true;
      }
      if (letter == 'b' && n.length == 1 && n[0] <= 6) {
        bellAndLimit[0] = n[0];
        return true;
      }
      if (letter == 'n' && n.length == 1 && n[0] >= 1) {
        bellAndLimit[1] = n[0];
        return true;
      }
      return false;
    }

    int fault() {
      return read(new ArrayList<>(), new LinkedHashMap<>(), new LinkedHashMap<>(), new int[2]);
    }

    int lay() {
      List<int[]> kids = new ArrayList<>();
      Map<String, Integer> roads = new LinkedHashMap<>();
      Map<String, int[]> snow = new LinkedHashMap<>();
      int[] bellAndLimit = {0, 60};
      if (read(kids, roads, snow, bellAndLimit) != NONE || kids.isEmpty() || bellAndLimit[0] >= kids.size()) {
        return NO;
      }
      children = kids;
      ways = roads;
      snows = snow;
      limit = bellAndLimit[1];
      now = new State();
      now.bell = bellAndLimit[0];
      now.had.add(now.bell);
      undoable.clear();
      kept.clear();
      seen.clear();
      return kids.size();
    }

    private boolean isHome(int h) {
      return h >= 0 && h < children.size();
    }

    private boolean open(State s, String way) {
      if (!ways.containsKey(way) || s.shut.contains(way)) {
        return false;
      }
      int[] snow = snows.get(way);
      int day = s.day % 28;
      return snow == null || day < snow[0] || day > snow[1];
    }

    /** The fewest minutes, by trying all rows of homes that come to none twice. */
    private int far(State s, int a, int b, int gone) {
      if (a == b) {
        return 0;
      }
      int best = NONE;
      for (int h = 0; h < children.size(); h++) {
        if (h == a || (gone >> h & 1) != 0 || !open(s, pair(a, h))) {
          continue;
        }
        int rest = far(s, h, b, gone | 1 << a);
        if (rest != NONE) {
          int whole = rest + ways.get(pair(a, h));
          best = best == NONE ? whole : Math.min(best, whole);
        }
      }
      return best;
    }

    private int comes(State s, int c) {
      int far = far(s, c, s.bell, 0);
      if (s.sick.contains(c) || far == NONE || far > limit) {
        return NONE;
      }
      int time = 0;
      if (c != s.bell) {
        int kind = children.get(c)[0];
        time = kind == 1 ? 2 * far : kind == 2 ? (2 * far) / 3 : far;
        time += children.get(c)[1];
        time += kind == 3 ? 15 : 0;
      }
      return time + (s.held.contains(c) ? 20 : 0);
    }

    private int last(State s, List<Integer> absent) {
      int last = NONE;
      int latest = -1;
      for (int c = 0; c < children.size(); c++) {
        int time = absent.contains(c) ? NONE : comes(s, c);
        if (time != NONE && time >= latest) {
          last = c;
          latest = time;
        }
      }
      return last;
    }

    private int last(State s) {
      return last(s, List.of());
    }

    private void day(State s) {
      for (int c = 0; c < children.size(); c++) {
        if (comes(s, c) != NONE) {
          s.soups[s.bell]++;
        }
      }
      int last = last(s);
      s.bell = last == NONE ? s.bell : last;
      if (!s.had.contains(s.bell)) {
        s.had.add(s.bell);
      }
      s.held.clear();
      s.day++;
    }

    private State afterDays(State from, int n) {
      State s = from.twin();
      for (int i = 0; i < n; i++) {
        day(s);
      }
      return s;
    }

    private void remember() {
      undoable.add(now.twin());
      if (undoable.size() > 8) {
        undoable.remove(0);
      }
    }

    private static <T> int toggle(List<T> list, T what) {
      if (list.remove(what)) {
        return 0;
      }
      list.add(what);
      return 1;
    }

    private int again() {
      State s = now.twin();
      for (int t = 1; t <= 56; t++) {
        day(s);
        if (s.bell == now.bell) {
          return t;
        }
      }
      return NONE;
    }

    /** Rows in their order, day by day; of those that come to the same only the first goes on. */
    private int[] each() {
      State first = now.twin();
      first.held.clear();
      Map<String, List<Integer>> rows = new LinkedHashMap<>();
      rows.put(first.bell + "/" + bits(first.had), new ArrayList<>());
      for (int t = 0; t <= 28; t++) {
        for (Map.Entry<String, List<Integer>> e : rows.entrySet()) {
          if (e.getKey().endsWith("/" + ((1 << children.size()) - 1))) {
            return e.getValue().stream().mapToInt(Integer::intValue).toArray();
          }
        }
        Map<String, List<Integer>> longer = new LinkedHashMap<>();
        int[][] memo = new int[7][];
        for (Map.Entry<String, List<Integer>> e : rows.entrySet()) {
          int bell = Integer.parseInt(e.getKey().split("/")[0]);
          int had = Integer.parseInt(e.getKey().split("/")[1]);
          if (memo[bell] == null) {
            memo[bell] = nexts(bell, first, t);
          }
          for (int c = -1; c < children.size(); c++) {
            int to = memo[bell][c + 1];
            List<Integer> row = new ArrayList<>(e.getValue());
            row.add(c);
            longer.putIfAbsent(to + "/" + (had | 1 << to), row);
          }
        }
        rows = longer;
      }
      return null;
    }

    private int[] nexts(int bell, State first, int t) {
      int[] to = new int[children.size() + 1];
      for (int c = -1; c < children.size(); c++) {
        State s = first.twin();
        s.day += t;
        s.bell = bell;
        if (c >= 0) {
          s.held.add(c);
        }
        day(s);
        to[c + 1] = s.bell;
      }
      return to;
    }

    private static int bits(List<Integer> list) {
      int all = 0;
      for (int i : list) {
        all |= 1 << i;
      }
      return all;
    }

    private int eachAnswer(int k) {
      if (k < 0 || k > 28) {
        return BAD;
      }
      int[] row = each();
      if (row == null) {
        return NONE;
      }
      if (k == 0) {
        return row.length;
      }
      return k > row.length || row[k - 1] < 0 ? NONE : row[k - 1];
    }

    private int always() {
      int all = 0;
      for (int c = 0; c < children.size(); c++) {
        boolean at = true;
        for (int h = 0; h < children.size(); h++) {
          State s = now.twin();
          s.bell = h;
          at &= last(s) == c;
        }
        all |= at ? 1 << c : 0;
      }
      return all;
    }

    private int never() {
      List<Integer> been = new ArrayList<>();
      State s = now.twin();
      been.add(s.bell);
      for (int t = 1; t <= 56; t++) {
        day(s);
        been.add(s.bell);
      }
      int all = 0;
      for (int h = 0; h < children.size(); h++) {
        all |= been.contains(h) ? 0 : 1 << h;
      }
      return all;
    }

    private boolean isSo(State s) {
      for (int[] one : seen) {
        if (afterDays(s, one[1]).bell != one[0]) {
          return false;
        }
      }
      return true;
    }

    private int fog() {
      int all = 0;
      for (int h = 0; h < children.size(); h++) {
        State s = now.twin();
        s.bell = h;
        all |= isSo(s) ? 1 << h : 0;
      }
      return all;
    }

    private int tripped() {
      int all = isSo(now) ? 128 : 0;
      for (int c = 0; c < children.size(); c++) {
        State s = now.twin();
        s.held.add(c);
        all |= isSo(s) ? 1 << c : 0;
      }
      return all;
    }

    /** Weights of the sets of absent children, all sets gone through. */
    private BigInteger[] weights(State s, int x) {
      BigInteger[] to = new BigInteger[7];
      Arrays.fill(to, BigInteger.ZERO);
      int n = children.size();
      for (int set = 0; set < 1 << n; set++) {
        List<Integer> absent = new ArrayList<>();
        BigInteger weight = BigInteger.ONE;
        for (int c = 0; c < n; c++) {
          boolean out = (set >> c & 1) != 0;
          weight = weight.multiply(BigInteger.valueOf(out ? x : 10 - x));
          if (out) {
            absent.add(c);
          }
        }
        int last = last(s, absent);
        int h = last == NONE ? s.bell : last;
        to[h] = to[h].add(weight);
      }
      return to;
    }

    private long measles(int h, int n, int x, int part) {
      if (!isHome(h) || n < 0 || n > 2 || x < 0 || x > 10 || part < 0 || part > 1) {
        return BAD;
      }
      BigInteger[] at = new BigInteger[7];
      Arrays.fill(at, BigInteger.ZERO);
      at[now.bell] = BigInteger.ONE;
      BigInteger below = BigInteger.ONE;
      for (int t = 0; t < n; t++) {
        BigInteger[] then = new BigInteger[7];
        Arrays.fill(then, BigInteger.ZERO);
        for (int b = 0; b < children.size(); b++) {
          if (at[b].signum() == 0) {
            continue;
          }
          State s = now.twin();
          s.bell = b;
          s.day += t;
          if (t > 0) {
            s.held.clear();
          }
          BigInteger[] to = weights(s, x);
          for (int i = 0; i < 7; i++) {
            then[i] = then[i].add(at[b].multiply(to[i]));
          }
        }
        at = then;
        below = below.multiply(BigInteger.TEN.pow(children.size()));
      }
      BigInteger divisor = at[h].gcd(below);
      return (part == 0 ? at[h] : below).divide(divisor).longValueExact();
    }

    private int year(int z, int n, int what) {
      if (z < 0 || z > 9999 || n < 1 || n > 60 || what < 0 || what > 1) {
        return BAD;
      }
      State s = now.twin();
      for (int k = 0; k < n; k++) {
        BigInteger x = BigInteger.valueOf(7919L * z).add(BigInteger.valueOf(6151L * k)).add(BigInteger.ONE);
        int draw = x.multiply(x).mod(BigInteger.valueOf(65521)).intValueExact() / 2;
        if (draw / 8 % 2 == 0) {
          s.held.add(draw % children.size());
        }
        day(s);
      }
      return what == 0 ? s.bell : Arrays.stream(s.soups).sum() - Arrays.stream(now.soups).sum();
    }

    private int home(int h, int what) {
      if (!isHome(h) || what < 0 || what > 6) {
        return BAD;
      }
      int[] all = {children.get(h)[0], children.get(h)[1], now.bell == h ? 1 : 0,
          now.had.contains(h) ? 1 : 0, now.soups[h], now.sick.contains(h) ? 1 : 0,
          now.held.contains(h) ? 1 : 0};
      return all[what];
    }

    private int way(int a, int b, int what) {
      if (!isHome(a) || !isHome(b) || a == b || what < 0 || what > 1) {
        return BAD;
      }
      Integer minutes = ways.get(pair(a, b));
      if (minutes == null) {
        return NONE;
      }
      return what == 0 ? minutes : open(now, pair(a, b)) ? 1 : 0;
    }

    private int shut(int a, int b) {
      if (!isHome(a) || !isHome(b) || a == b) {
        return BAD;
      }
      if (!ways.containsKey(pair(a, b))) {
        return NO;
      }
      remember();
      return toggle(now.shut, pair(a, b));
    }

    private int count(int what) {
      int[] all = {children.size(), ways.size(), now.shut.size(), now.day, now.bell, now.sick.size(),
          Arrays.stream(now.soups).sum(), seen.size(), undoable.size(), kept.size(), text.length()};
      return what < 0 || what > 10 ? BAD : all[what];
    }

    private int pass(int n) {
      if (n < 1 || n > 28) {
        return BAD;
      }
      remember();
      now = afterDays(now, n);
      return now.bell;
    }

    private int see(int h, int days) {
      if (!isHome(h) || days < 1 || days > 28) {
        return BAD;
      }
      if (seen.size() == 6) {
        return FULL;
      }
      seen.add(new int[] {h, days});
      return seen.size();
    }

    private int toggleChild(List<Integer> list, int c) {
      return toggle(list, Integer.valueOf(c));
    }

    private int undo() {
      if (undoable.isEmpty()) {
        return NO;
      }
      now = undoable.remove(undoable.size() - 1);
      return undoable.size();
    }

    private int keep() {
      if (kept.size() == 2) {
        return FULL;
      }
      kept.add(now.twin());
      return kept.size();
    }

    private int back() {
      if (kept.isEmpty()) {
        return NO;
      }
      now = kept.remove(kept.size() - 1);
      undoable.clear();
      return kept.size();
    }

    long answer(int call, int a, int b, int c, int d) {
      switch (call) {
        case 1: return count(a);
        case 2: return write(a);
        case 3: {
          int length = text.length();
          text = "";
          return length;
        }
        case 4: return fault();
        case 5: return lay();
        case 6: return home(a, b);
        case 7: return way(a, b, c);
        case 8: return !isHome(a) || !isHome(b) ? BAD : far(now, a, b, 0);
        case 9: return !isHome(a) ? BAD : comes(now, a);
        case 10: return last(now);
        case 11: return pass(a);
        case 12: {
          if (!isHome(a)) {
            return BAD;
          }
          remember();
          return toggleChild(now.held, a);
        }
        case 13: {
          if (!isHome(a)) {
            return BAD;
          }
          remember();
          return toggleChild(now.sick, a);
        }
        case 14: return shut(a, b);
        case 15: return undo();
        case 16: return a < 0 || a > 60 ? BAD : afterDays(now, a).bell;
        case 17: return again();
        case 18: return eachAnswer(a);
        case 19: return always();
        case 20: return never();
        case 21: return see(a, b);
        case 22: {
          int were = seen.size();
          seen.clear();
          return were;
        }
        case 23: return fog();
        case 24: return tripped();
        case 25: return measles(a, b, c, d);
        case 26: return year(a, b, c);
        case 27: return keep();
        default: return back();
      }
    }
  }
}
