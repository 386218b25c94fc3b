import java.util.ArrayDeque;
import java.util.ArrayList;
import java.util.Deque;
import java.util.HashSet;
import java.util.List;
import java.util.Set;
import java.util.TreeMap;

/** The document once more, written as slowly and plainly as can be: what the tests hold ShiftAdds against. */
final class Reference {
  static final int BAD = -1, STATE = -2, FULL = -3, NONE = -9;

  /** One of ODDS. */
  static final class Odd {
    final int value, depth, p, q, s, form, halved;
    final boolean negative;

    Odd(int value, int depth, int p, int q, int s, int form, int halved, boolean negative) {
      this.value = value;
      this.depth = depth;
      this.p = p;
      this.q = q;
      this.s = s;
      this.form = form;
      this.halved = halved;
      this.negative = negative;
    }
  }

  static final class World {
    final List<Odd> odds = new ArrayList<>();
    final List<Integer> wanted = new ArrayList<>();
    int limit = 6;

    World() {
      odds.add(new Odd(1, 0, NONE, NONE, NONE, NONE, 0, false));
    }

    World copy() {
      World w = new World();
      w.odds.clear();
      w.odds.addAll(odds);
      w.wanted.addAll(wanted);
      w.limit = limit;
      return w;
    }

    static long raw(long p, int s, long q, int form) {
      long two = 1L << s;
      if (form == 0) return two * p + q;
      if (form == 1) return two * p - q;
      if (form == 2) return p + two * q;
      return p - two * q;
    }

    /** The adder, or null if it may not be. */
    Odd adder(int p, int s, int q, int form) {
      long raw = raw(odds.get(p).value, s, odds.get(q).value, form);
      long comes = Math.abs(raw);
      int depth = Math.max(odds.get(p).depth, odds.get(q).depth) + 1;
      if (comes == 0 || comes > 1023 || depth > limit) return null;
      int halved = 0;
      while (comes % 2 == 0) {
        comes /= 2;
        halved++;
      }
      return new Odd((int) comes, depth, p, q, s, form, halved, raw < 0);
    }

    boolean there(int v) {
      for (Odd o : odds) if (o.value == v) return true;
      return false;
    }

    /** NEAR numbers, each with BY. */
    TreeMap<Integer, Odd> near() {
      TreeMap<Integer, Odd> found = new TreeMap<>();
      for (int p = 0; p < odds.size(); p++)
        for (int q = 0; q < odds.size(); q++)
          for (int s = 0; s <= 9; s++)
            for (int form = 0; form < 4; form++) {
              Odd o = adder(p, s, q, form);
              if (o != null && !there(o.value)) found.putIfAbsent(o.value, o);
            }
      return found;
    }

    /** Whether an adder that may be, of the last of ODDS and any, makes v. */
    boolean lastMakes(int v) {
      int last = odds.size() - 1;
      for (int k = 0; k <= last; k++)
        for (int s = 0; s <= 9; s++)
          for (int form = 0; form < 4; form++) {
            Odd one = adder(last, s, k, form);
            Odd other = adder(k, s, last, form);
            if (one != null && one.value == v || other != null && other.value == v) return true;
          }
      return false;
    }

    int two(int v, TreeMap<Integer, Odd> near) {
      if (there(v) || near.containsKey(v)) return NONE;
      for (int u : near.keySet()) {
        odds.add(near.get(u));
        boolean makes = lastMakes(v);
        odds.remove(odds.size() - 1);
        if (makes) return u;
      }
      return NONE;
    }

    int notMet() {
      int not = 0;
      for (int w : wanted) if (!there(part(w))) not++;
      return not;
    }
  }

  static int part(int v) {
    while (v % 2 == 0) v /= 2;
    return v;
  }

  World now = new World();
  final Deque<World> before = new ArrayDeque<>();
  final World[] images = new World[2];
  final List<int[]> seen = new ArrayList<>();
  String text = "";
  private List<Integer> planned;
  private int plannedNotMet;
  private World plannedFor;

  int type(int letter) {
    if (letter < 0 || letter > 255) return BAD;
    if (text.length() == 80) return FULL;
    text += (char) letter;
    return text.length();
  }

  int clear() {
    int had = text.length();
    text = "";
    return had;
  }

  /** Splits the text into tokens first; then goes through them with a list of what is told so far. */
  int graph() {
    List<String> tokens = new ArrayList<>();
    List<Integer> places = new ArrayList<>();
    for (int i = 0; i < text.length(); ) {
      int j = i + 1;
      if (Character.toString(text.charAt(i)).matches("[0-9]"))
        while (j < text.length() && Character.toString(text.charAt(j)).matches("[0-9]")) j++;
      if (text.charAt(i) != ' ') {
        tokens.add(text.substring(i, j));
        places.add(i);
      }
      i = j;
    }
    World w = new World();
    int items = 0;
    List<String> item = new ArrayList<>();
    for (int t = 0; t < tokens.size(); t++) {
      item.add(tokens.get(t));
      if (!stands(w, item, items)) return -10 - places.get(t);
      if (tokens.get(t).equals(";")) {
        items++;
        item.clear();
      }
    }
    if (!item.isEmpty()) return -10 - text.length();
    now = w;
    before.clear();
    seen.clear();
    images[0] = null;
    images[1] = null;
    text = "";
    return items;
  }

  private static int number(String token) {
    return token.matches("0|[1-9][0-9]{0,3}") ? Integer.parseInt(token) : -1;
  }

  /** Whether the last token of an item can stand there; what it completes is told then. */
  private static boolean stands(World w, List<String> item, int items) {
    int n = item.size();
    String last = item.get(n - 1);
    if (n == 1) {
      return last.equals("l") && items == 0
          || last.equals("w") && w.wanted.size() < 6
          || last.equals("a") && w.odds.size() <= 12;
    }
    int v = number(last);
    if (item.get(0).equals("l")) {
      if (n == 3) return last.equals(";");
      if (v < 1 || v > 9) return false;
      w.limit = v;
      return true;
    }
    if (item.get(0).equals("w")) {
      if (n == 3) return last.equals(";");
      if (v < 1 || v > 1023 || w.wanted.contains(v)) return false;
      w.wanted.add(v);
      return true;
    }
    if (n == 6) return last.equals(";");
    if (n == 2 || n == 4) return v >= 0 && v < w.odds.size();
    if (n == 3) return v >= 0 && v <= 9;
    if (v < 0 || v > 3) return false;
    Odd o = w.adder(number(item.get(1)), number(item.get(2)), number(item.get(3)), v);
    if (o == null) return false;
    w.odds.add(o);
    return true;
  }

  int odd(int k, int what) {
    if (k < 0 || k >= now.odds.size()) return BAD;
    Odd o = now.odds.get(k);
    switch (what) {
      case 0: return o.value;
      case 1: return o.depth;
      case 2: return o.p;
      case 3: return o.q;
      case 4: return o.s;
      case 5: return o.form;
      case 6: return o.halved;
      default: return BAD;
    }
  }

  int wanted(int k, int what) {
    if (k < 0 || k >= now.wanted.size() || what < 0 || what > 1) return BAD;
    int w = now.wanted.get(k);
    return what == 0 ? w : now.there(part(w)) ? 1 : 0;
  }

  private void change(World next) {
    before.push(now);
    if (before.size() > 10) before.removeLast();
    now = next;
  }

  int adds(int p, int s, int q, int form) {
    int n = now.odds.size();
    if (p < 0 || p >= n || q < 0 || q >= n || s < 0 || s > 9 || form < 0 || form > 3) return BAD;
    Odd o = now.adder(p, s, q, form);
    if (o == null) return STATE;
    if (n == 13) return FULL;
    World w = now.copy();
    w.odds.add(o);
    change(w);
    return o.value;
  }

  int takes() {
    if (now.odds.size() == 1) return STATE;
    World w = now.copy();
    Odd o = w.odds.remove(w.odds.size() - 1);
    change(w);
    return o.value;
  }

  int wishes(int constant) {
    if (constant < 1 || constant > 1023) return BAD;
    World w = now.copy();
    if (!w.wanted.remove((Integer) constant)) {
      if (w.wanted.size() == 6) return FULL;
      w.wanted.add(constant);
    }
    change(w);
    return w.wanted.size();
  }

  int limits(int limit) {
    if (limit < 1 || limit > 9) return BAD;
    for (Odd o : now.odds) if (o.depth > limit) return STATE;
    World w = now.copy();
    w.limit = limit;
    int was = now.limit;
    change(w);
    return was;
  }

  int undo() {
    if (before.isEmpty()) return STATE;
    now = before.pop();
    return before.size();
  }

  /** The digits found by the rule alone: an odd rest takes 1 or -1, so that what is left is divided by 4. */
  private static int[] signed(int v) {
    int[] d = new int[12];
    for (int k = 0; v != 0; k++) {
      if (v % 2 != 0) {
        d[k] = v % 4 == 1 ? 1 : -1;
        v -= d[k];
      }
      v /= 2;
    }
    return d;
  }

  int digits(int v) {
    if (v < 1 || v > 1023) return BAD;
    int n = 0;
    for (int d : signed(v)) if (d != 0) n++;
    return n;
  }

  int digit(int v, int k) {
    if (v < 1 || v > 1023 || k < 0 || k > 11) return BAD;
    return signed(v)[k] + 1;
  }

  int near(int v, int what) {
    if (v < 0 || what < 0 || what > 1) return BAD;
    TreeMap<Integer, Odd> near = now.near();
    if (what == 0) return near.tailMap(v, false).size();
    Integer least = near.higherKey(v);
    return least == null ? NONE : least;
  }

  private static boolean oddNumber(int v) {
    return v >= 1 && v <= 1023 && v % 2 == 1;
  }

  int by(int v, int what) {
    if (!oddNumber(v) || what < 0 || what > 3) return BAD;
    Odd o = now.near().get(v);
    if (o == null) return NONE;
    return what == 0 ? o.p : what == 1 ? o.q : what == 2 ? o.s : o.form;
  }

  int two(int v) {
    if (!oddNumber(v)) return BAD;
    return now.two(v, now.near());
  }

  private static int[] leastTable;

  int least(int v) {
    if (v < 1 || v > 255) return BAD;
    if (leastTable == null) {
      leastTable = new int[1024];
      java.util.Arrays.fill(leastTable, NONE);
      World w = new World();
      w.limit = 9;
      goThrough(w, 0, new HashSet<>());
    }
    return leastTable[part(v)];
  }

  private static void goThrough(World w, int made, Set<Set<Integer>> been) {
    Set<Integer> values = new HashSet<>();
    for (Odd o : w.odds) {
      values.add(o.value);
      if (leastTable[o.value] == NONE || leastTable[o.value] > made) leastTable[o.value] = made;
    }
    if (!been.add(values) || made == 3) return;
    for (Odd o : w.near().values()) {
      w.odds.add(o);
      goThrough(w, made + 1, been);
      w.odds.remove(w.odds.size() - 1);
    }
  }

  int plan(int k) {
    if (k < -2) return BAD;
    if (plannedFor != now) makePlan();
    if (k == -2) return planned.size();
    if (k == -1) return plannedNotMet;
    return k < planned.size() ? planned.get(k) : NONE;
  }

  private void makePlan() {
    World w = now.copy();
    planned = new ArrayList<>();
    while (w.notMet() > 0 && w.odds.size() < 13) {
      TreeMap<Integer, Odd> near = w.near();
      int make = NONE;
      List<Integer> parts = new ArrayList<>();
      for (int c : w.wanted) if (!w.there(part(c)) && !parts.contains(part(c))) parts.add(part(c));
      parts.sort(null);
      for (int c : parts) if (make == NONE && near.containsKey(c)) make = c;
      for (int c : parts) if (make == NONE) make = w.two(c, near);
      if (make == NONE) break;
      w.odds.add(near.get(make));
      planned.add(make);
    }
    plannedNotMet = w.notMet();
    plannedFor = now;
  }

  long product(int k, int x) {
    if (k < 0 || k >= now.odds.size() || Math.abs((long) x) > 99999) return 0;
    if (k == 0) return x;
    Odd o = now.odds.get(k);
    long raw = World.raw(product(o.p, x), o.s, product(o.q, x), o.form);
    return (o.negative ? -raw : raw) / (1L << o.halved);
  }

  int sees(int m, int r) {
    if (m < 2 || m > 9 || r < 0 || r >= m) return BAD;
    if (seen.size() == 6) return FULL;
    seen.add(new int[] {m, r});
    return seen.size();
  }

  int forget() {
    int was = seen.size();
    seen.clear();
    return was;
  }

  private List<Integer> left() {
    List<Integer> left = new ArrayList<>(now.near().keySet());
    for (int[] s : seen) left.removeIf(v -> v % s[0] != s[1]);
    return left;
  }

  int unseen(int what) {
    if (what < 0 || what > 1) return BAD;
    List<Integer> left = left();
    if (what == 0) return left.size();
    return left.isEmpty() ? NONE : left.get(0);
  }

  int next() {
    List<Integer> left = left();
    if (left.size() <= 1) return NONE;
    int best = NONE, smallest = Integer.MAX_VALUE;
    for (int m = 2; m <= 9; m++) {
      int greatest = 0;
      for (int r = 0; r < m; r++) {
        int n = 0;
        for (int v : left) if (v % m == r) n++;
        greatest = Math.max(greatest, n);
      }
      if (greatest < smallest) {
        smallest = greatest;
        best = m;
      }
    }
    return best;
  }

  int keep(int image) {
    if (image < 0 || image > 1) return BAD;
    images[image] = now.copy();
    return now.odds.size() - 1;
  }

  int back(int image) {
    if (image < 0 || image > 1) return BAD;
    if (images[image] == null) return STATE;
    now = images[image].copy();
    before.clear();
    return now.odds.size() - 1;
  }

  int count(int what) {
    switch (what) {
      case 0: return now.odds.size() - 1;
      case 1: return now.wanted.size();
      case 2: return now.limit;
      case 3: return now.notMet();
      case 4: {
        int d = 0;
        for (Odd o : now.odds) d = Math.max(d, o.depth);
        return d;
      }
      case 5: return seen.size();
      case 6: return text.length();
      case 7: return before.size();
      default: return BAD;
    }
  }
}
