import java.util.ArrayList;
import java.util.List;

/**
 * A refused call changes nothing that a later call shows, and neither does a look: of two objects with the same
 * past the one takes the call, the other does not, and all that can be looked at is the same then.
 */
public final class RefusedTest extends Tests {
  interface Call {
    long on(ShiftAdds x);
  }

  interface Past {
    void of(ShiftAdds x);
  }

  interface Look {
    void at(ShiftAdds x, StringBuilder seen);
  }

  record Named(String name, Call call, long due) {}

  // ---- pasts

  private static void none(ShiftAdds x) {
  }

  private static void some(ShiftAdds x) {
    type(x, "l4;w3;w9;w44;a0 1 0 0;a1 2 0 1;");
    x.graph();
    x.keep(1);
    x.wishes(12);
    x.adds(2, 1, 0, 0);
    x.limits(5);
    x.sees(3, 1);
    type(x, "w7;w0;");
  }

  private static void full(ShiftAdds x) {
    x.keep(0);
    x.limits(3);
    for (int c = 683; c < 689; c++) x.wishes(c);
    x.adds(0, 1, 0, 0);
    x.keep(1);
    for (int n = 1; n < 3; n++) x.adds(n, 1, n - 1, 0);
    while (x.count(0) < 12) x.adds(0, x.count(0) % 9 + 1, 0, 1);
    for (int n = 0; n < 6; n++) x.sees(5, 1);
    type(x, "l7;w5;a0 2 0 0;");
    while (x.count(6) < 80) x.type(' ');
  }

  private static void deep(ShiftAdds x) {
    x.limits(9);
    for (int n = 0; n < 9; n++) x.adds(n, 0, n, 0);
    x.wishes(11);
    x.keep(0);
    type(x, "w5");
  }

  // ---- looks

  private static void note(StringBuilder seen, String call, long answer) {
    seen.append(call).append(" = ").append(answer).append('\n');
  }

  private static void atCounts(ShiftAdds x, StringBuilder seen) {
    for (int what = 0; what < 8; what++) note(seen, "count " + what, x.count(what));
  }

  private static void atAll(ShiftAdds x, StringBuilder seen) {
    atCounts(x, seen);
    for (int k = 0; k < 14; k++)
      for (int what = 0; what < 7; what++) note(seen, "odd " + k + " " + what, x.odd(k, what));
    for (int k = 0; k < 7; k++)
      for (int what = 0; what < 2; what++) note(seen, "wanted " + k + " " + what, x.wanted(k, what));
  }

  private static void atNear(ShiftAdds x, StringBuilder seen) {
    for (int v = 0; v < 1024; v += 31) {
      note(seen, "how many above " + v, x.near(v, 0));
      note(seen, "the least above " + v, x.near(v, 1));
    }
    for (int v = 5; v < 1024; v += 48)
      for (int what = 0; what < 4; what++) note(seen, "by " + v + " " + what, x.by(v, what));
    for (int v = 11; v < 1024; v += 72) note(seen, "two " + v, x.two(v));
  }

  private static void atPlan(ShiftAdds x, StringBuilder seen) {
    for (int k = -2; k < 13; k++) note(seen, "plan " + k, x.plan(k));
    for (int k = 0; k < 13; k++) note(seen, "product " + k, x.product(k, -77));
    for (int what = 0; what < 2; what++) note(seen, "unseen " + what, x.unseen(what));
    note(seen, "next", x.next());
    note(seen, "least", x.least(43));
    note(seen, "digits", x.digits(683));
    note(seen, "forget", x.forget());
    note(seen, "unseen", x.unseen(0));
  }

  private static void atUndone(ShiftAdds x, StringBuilder seen) {
    for (int n = 0; n < 12; n++) {
      note(seen, "undo", x.undo());
      atCounts(x, seen);
      note(seen, "the last", x.odd(x.count(0), 0));
      for (int k = 0; k < 6; k++) note(seen, "wanted " + k, x.wanted(k, 0));
      note(seen, "near", x.near(0, 0));
    }
  }

  private static void atImage0(ShiftAdds x, StringBuilder seen) {
    note(seen, "back 0", x.back(0));
    atAll(x, seen);
    note(seen, "near", x.near(0, 0));
  }

  private static void atImage1(ShiftAdds x, StringBuilder seen) {
    note(seen, "back 1", x.back(1));
    atAll(x, seen);
    note(seen, "plan", x.plan(0));
  }

  private static void atText(ShiftAdds x, StringBuilder seen) {
    note(seen, "graph", x.graph());
    atAll(x, seen);
    note(seen, "back", x.back(0));
    note(seen, "clear", x.clear());
  }

  private static void atTextToldOn(ShiftAdds x, StringBuilder seen) {
    note(seen, "type", x.type(';'));
    note(seen, "graph", x.graph());
    atAll(x, seen);
  }

  private static void atRoom(ShiftAdds x, StringBuilder seen) {
    for (int n = 0; n < 13; n++) note(seen, "adds", x.adds(0, 1, 0, 0));
    for (int n = 0; n < 7; n++) note(seen, "wishes", x.wishes(800 + n));
    for (int n = 0; n < 7; n++) note(seen, "sees", x.sees(2, 1));
    for (int n = 0; n < 81; n++) note(seen, "type", x.type(' '));
    for (int limit = 9; limit > 0; limit--) note(seen, "limits", x.limits(limit));
    for (int n = 0; n < 13; n++) note(seen, "takes", x.takes());
  }

  private static final Look[] LOOKS = {RefusedTest::atAll, RefusedTest::atNear, RefusedTest::atPlan,
    RefusedTest::atUndone, RefusedTest::atImage0, RefusedTest::atImage1, RefusedTest::atText,
    RefusedTest::atTextToldOn, RefusedTest::atRoom};

  private static String seenBehind(Past past, List<Named> calls, Look look) {
    ShiftAdds x = new ShiftAdds();
    past.of(x);
    for (Named n : calls) due(n.name(), n.call().on(x), n.due());
    StringBuilder seen = new StringBuilder();
    look.at(x, seen);
    return seen.toString();
  }

  private static String firstOther(String seen, String want) {
    String[] a = seen.split("\n"), b = want.split("\n");
    for (int i = 0; i < Math.min(a.length, b.length); i++) if (!a[i].equals(b[i])) return a[i] + ", without it " + b[i];
    return "";
  }

  /** Each call alone, and all in a row. */
  private static void changesNothing(Past past, List<Named> calls) {
    for (Look look : LOOKS) {
      String want = seenBehind(past, List.of(), look);
      for (Named n : calls) {
        String other = firstOther(seenBehind(past, List.of(n), look), want);
        that("behind " + n.name() + " all is as without it: " + other, other.isEmpty());
      }
      String other = firstOther(seenBehind(past, calls, look), want);
      that("behind all of them all is as without them: " + other, other.isEmpty());
    }
  }

  // ---- calls

  /** Calls that are BAD in every state. */
  private static List<Named> bad() {
    List<Named> bad = new ArrayList<>();
    int[] letters = {-1, 256};
    for (int letter : letters) bad.add(new Named("type(" + letter + ")", x -> x.type(letter), BAD));
    int[][] odds = {{-1, 0}, {13, 0}, {0, -1}, {0, 7}};
    for (int[] o : odds) bad.add(new Named("odd(" + o[0] + ", " + o[1] + ")", x -> x.odd(o[0], o[1]), BAD));
    int[][] wanted = {{-1, 0}, {6, 0}, {0, -1}, {0, 2}};
    for (int[] w : wanted) bad.add(new Named("wanted(" + w[0] + ", " + w[1] + ")", x -> x.wanted(w[0], w[1]), BAD));
    int[][] adders = {{-1, 0, 0, 0}, {13, 0, 0, 0}, {0, -1, 0, 0}, {0, 10, 0, 0}, {0, 0, -1, 0}, {0, 0, 13, 0},
      {0, 0, 0, -1}, {0, 0, 0, 4}};
    for (int[] a : adders) {
      bad.add(new Named("adds(" + a[0] + ", " + a[1] + ", " + a[2] + ", " + a[3] + ")",
          x -> x.adds(a[0], a[1], a[2], a[3]), BAD));
    }
    int[] constants = {0, 1024};
    for (int c : constants) bad.add(new Named("wishes(" + c + ")", x -> x.wishes(c), BAD));
    int[] limits = {0, 10};
    for (int limit : limits) bad.add(new Named("limits(" + limit + ")", x -> x.limits(limit), BAD));
    int[][] seen = {{1, 0}, {10, 0}, {2, 2}, {9, -1}};
    for (int[] s : seen) bad.add(new Named("sees(" + s[0] + ", " + s[1] + ")", x -> x.sees(s[0], s[1]), BAD));
    int[] images = {-1, 2};
    for (int image : images) {
      bad.add(new Named("keep(" + image + ")", x -> x.keep(image), BAD));
      bad.add(new Named("back(" + image + ")", x -> x.back(image), BAD));
    }
    bad.addAll(badLooks());
    return bad;
  }

  private static List<Named> badLooks() {
    List<Named> bad = new ArrayList<>();
    bad.add(new Named("digits(0)", x -> x.digits(0), BAD));
    bad.add(new Named("digits(1024)", x -> x.digits(1024), BAD));
    bad.add(new Named("digit(0, 0)", x -> x.digit(0, 0), BAD));
    bad.add(new Named("digit(1, 12)", x -> x.digit(1, 12), BAD));
    bad.add(new Named("near(-1, 0)", x -> x.near(-1, 0), BAD));
    bad.add(new Named("near(0, 2)", x -> x.near(0, 2), BAD));
    bad.add(new Named("by(2, 0)", x -> x.by(2, 0), BAD));
    bad.add(new Named("by(1, 4)", x -> x.by(1, 4), BAD));
    bad.add(new Named("two(2)", x -> x.two(2), BAD));
    bad.add(new Named("two(1025)", x -> x.two(1025), BAD));
    bad.add(new Named("least(0)", x -> x.least(0), BAD));
    bad.add(new Named("least(256)", x -> x.least(256), BAD));
    bad.add(new Named("plan(-3)", x -> x.plan(-3), BAD));
    bad.add(new Named("unseen(-1)", x -> x.unseen(-1), BAD));
    bad.add(new Named("unseen(2)", x -> x.unseen(2), BAD));
    bad.add(new Named("count(-1)", x -> x.count(-1), BAD));
    bad.add(new Named("count(8)", x -> x.count(8), BAD));
    bad.add(new Named("product(-1, 1)", x -> x.product(-1, 1), 0));
    bad.add(new Named("product(13, 1)", x -> x.product(13, 1), 0));
    bad.add(new Named("product(0, 100000)", x -> x.product(0, 100000), 0));
    return bad;
  }

  /** Calls that look, each with what it answers behind a past. */
  private static List<Named> looking(Past past) {
    List<Named> calls = new ArrayList<>();
    ShiftAdds y = new ShiftAdds();
    past.of(y);
    for (int what = 0; what < 7; what++) {
      int w = what;
      calls.add(new Named("odd(0, " + w + ")", x -> x.odd(0, w), y.odd(0, w)));
      calls.add(new Named("count(" + w + ")", x -> x.count(w), y.count(w)));
    }
    calls.add(new Named("wanted(0, 1)", x -> x.wanted(0, 1), y.wanted(0, 1)));
    calls.add(new Named("digits(1023)", x -> x.digits(1023), 2));
    calls.add(new Named("digit(1023, 10)", x -> x.digit(1023, 10), 2));
    calls.add(new Named("near(0, 0)", x -> x.near(0, 0), y.near(0, 0)));
    calls.add(new Named("near(9, 1)", x -> x.near(9, 1), y.near(9, 1)));
    calls.add(new Named("by(19, 0)", x -> x.by(19, 0), y.by(19, 0)));
    calls.add(new Named("two(683)", x -> x.two(683), y.two(683)));
    calls.add(new Named("least(43)", x -> x.least(43), 3));
    calls.add(new Named("plan(-2)", x -> x.plan(-2), y.plan(-2)));
    calls.add(new Named("plan(0)", x -> x.plan(0), y.plan(0)));
    calls.add(new Named("product(0, 99999)", x -> x.product(0, 99999), 99999));
    calls.add(new Named("unseen(0)", x -> x.unseen(0), y.unseen(0)));
    calls.add(new Named("next()", x -> x.next(), y.next()));
    return calls;
  }

  // ---- tests

  static void badCallsChangeNothing() {
    changesNothing(RefusedTest::none, bad());
    changesNothing(RefusedTest::some, bad());
    changesNothing(RefusedTest::full, bad());
    changesNothing(RefusedTest::deep, bad());
  }

  static void looksChangeNothing() {
    changesNothing(RefusedTest::none, looking(RefusedTest::none));
    changesNothing(RefusedTest::some, looking(RefusedTest::some));
    changesNothing(RefusedTest::full, looking(RefusedTest::full));
    changesNothing(RefusedTest::deep, looking(RefusedTest::deep));
  }

  static void whatIsRefusedOfANewObjectChangesNothing() {
    changesNothing(RefusedTest::none, List.of(
        new Named("takes()", x -> x.takes(), STATE),
        new Named("undo()", x -> x.undo(), STATE),
        new Named("back(0)", x -> x.back(0), STATE),
        new Named("back(1)", x -> x.back(1), STATE),
        new Named("1 less 1", x -> x.adds(0, 0, 0, 1), STATE),
        new Named("1 less 1", x -> x.adds(0, 0, 0, 3), STATE),
        new Named("odd(1, 0)", x -> x.odd(1, 0), BAD),
        new Named("wanted(0, 0)", x -> x.wanted(0, 0), BAD)));
  }

  static void whatIsRefusedWhereSomeIsThereChangesNothing() {
    changesNothing(RefusedTest::some, List.of(
        new Named("graph() with a FAULT", x -> x.graph(), -14),
        new Named("back(0)", x -> x.back(0), STATE),
        new Named("11 less 11", x -> x.adds(2, 0, 2, 3), STATE),
        new Named("512 times 11", x -> x.adds(2, 9, 0, 0), STATE),
        new Named("limits(2)", x -> x.limits(2), STATE),
        new Named("odd(4, 0)", x -> x.odd(4, 0), BAD),
        new Named("wanted(4, 0)", x -> x.wanted(4, 0), BAD)));
  }

  static void whatIsRefusedWhereAllIsFullChangesNothing() {
    changesNothing(RefusedTest::full, List.of(
        new Named("a thirteenth", x -> x.adds(0, 1, 0, 0), FULL),
        new Named("a thirteenth of the twelfth", x -> x.adds(12, 1, 0, 0), FULL),
        new Named("nothing comes", x -> x.adds(5, 0, 5, 1), STATE),
        new Named("too deep", x -> x.adds(3, 0, 0, 0), STATE),
        new Named("a seventh WANTED", x -> x.wishes(1), FULL),
        new Named("the 81st letter", x -> x.type(';'), FULL),
        new Named("a seventh SEEN", x -> x.sees(2, 1), FULL),
        new Named("limits(2)", x -> x.limits(2), STATE)));
  }

  static void whatIsRefusedWhereItIsDeepChangesNothing() {
    changesNothing(RefusedTest::deep, List.of(
        new Named("ten deep", x -> x.adds(9, 1, 0, 0), STATE),
        new Named("ten deep", x -> x.adds(0, 1, 9, 2), STATE),
        new Named("limits(8)", x -> x.limits(8), STATE),
        new Named("limits(1)", x -> x.limits(1), STATE),
        new Named("graph() that ends too early", x -> x.graph(), -12),
        new Named("back(1)", x -> x.back(1), STATE)));
  }

  public static void main(String[] args) {
    runAll(RefusedTest.class);
  }
}
