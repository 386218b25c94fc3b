import java.util.Random;

/** Long runs of calls, made by a fixed seed, each answer held against the slow Reference. */
public final class RandomRunsTest {
  private static final int RUNS = 400, CALLS = 512;
  // What lookAtAll() calls, and a few more: behind its 512th call an object's answers are free.
  private static final int LAST_LOOK = 120;
  private static final int[] EDGES = {Integer.MIN_VALUE, -100000, -99999, -10, -9, -3, -2, -1, 0, 1, 2, 3, 9, 10, 11,
    12, 13, 79, 80, 255, 256, 511, 512, 513, 1021, 1022, 1023, 1024, 1025, 99999, 100000, Integer.MAX_VALUE};
  private static int wrong = 0;

  private final Random random;
  private final int run;
  private final ShiftAdds x = new ShiftAdds();
  private final Reference ref = new Reference();
  private int calls = 0;

  private RandomRunsTest(int run) {
    this.run = run;
    this.random = new Random(7919L * run + 17);
  }

  private void due(String call, long got, long want) {
    calls++;
    if (got != want) {
      wrong++;
      if (wrong <= 40) {
        System.out.println("run " + run + ", call " + calls + ": " + call + " answered " + got + ", due is " + want);
      }
    }
  }

  /** Mostly within low .. high, now and then just outside it, or far. */
  private int some(int low, int high) {
    int die = random.nextInt(40);
    if (die == 0) return EDGES[random.nextInt(EDGES.length)];
    if (die == 1) return low - 1;
    if (die == 2) return high + 1;
    return low + random.nextInt(high - low + 1);
  }

  private int oddNumber() {
    return random.nextInt(15) == 0 ? some(1, 1023) : 2 * random.nextInt(random.nextBoolean() ? 512 : 60) + 1;
  }

  private int adder() {
    return some(0, ref.now.odds.size() - 1);
  }

  private String number(int low, int high) {
    if (random.nextInt(60) == 0) return "0" + random.nextInt(10);
    if (random.nextInt(60) == 0) return Long.toString(9995 + random.nextInt(10));
    if (random.nextInt(90) == 0) return "99999999999999999999";
    int v = random.nextInt(25) == 0 ? high + 1 : low + random.nextInt(high - low + 1);
    return Integer.toString(Math.max(0, v));
  }

  private String blank() {
    return "   ".substring(0, Math.max(0, random.nextInt(9) - 6));
  }

  private String story() {
    StringBuilder b = new StringBuilder(blank());
    if (random.nextInt(3) == 0) b.append("l").append(blank()).append(number(1, 9)).append(blank()).append(";");
    int odds = 1;
    int items = random.nextInt(9);
    for (int i = 0; i < items; i++) {
      b.append(blank());
      if (random.nextInt(2) == 0) {
        b.append("w").append(blank()).append(number(1, random.nextBoolean() ? 60 : 1023));
      } else {
        b.append("a").append(number(0, odds - 1)).append(" ").append(number(0, 5)).append(" ")
            .append(number(0, odds - 1)).append(" ").append(number(0, 3));
        odds++;
      }
      b.append(blank()).append(";");
    }
    int flaws = random.nextInt(3) == 0 ? 1 + random.nextInt(2) : 0;
    for (int i = 0; i < flaws && b.length() > 0; i++) {
      int at = random.nextInt(b.length());
      int kind = random.nextInt(3);
      if (kind == 0) b.deleteCharAt(at);
      if (kind == 1) b.insert(at, "lwa; 0159x\t".charAt(random.nextInt(11)));
      if (kind == 2) b.setCharAt(at, (char) random.nextInt(256));
    }
    return b.append(blank()).toString();
  }

  private void tell() {
    String story = story();
    for (int i = 0; i < story.length() && calls < CALLS - LAST_LOOK; i++) {
      int letter = story.charAt(i);
      due("type(" + letter + ")", x.type(letter), ref.type(letter));
    }
    due("graph() of '" + ref.text + "'", x.graph(), ref.graph());
    if (random.nextInt(5) != 0) due("clear()", x.clear(), ref.clear());
  }

  private void change() {
    int a, b, c, d;
    switch (random.nextInt(9)) {
      case 0: case 1: case 2: case 3:
        a = adder();
        b = some(0, random.nextBoolean() ? 9 : 4);
        c = adder();
        d = some(0, 3);
        due("adds(" + a + ", " + b + ", " + c + ", " + d + ")", x.adds(a, b, c, d), ref.adds(a, b, c, d));
        break;
      case 4:
        due("takes()", x.takes(), ref.takes());
        break;
      case 5:
        a = !ref.now.wanted.isEmpty() && random.nextInt(3) == 0
            ? ref.now.wanted.get(random.nextInt(ref.now.wanted.size())) : some(1, 1023);
        due("wishes(" + a + ")", x.wishes(a), ref.wishes(a));
        break;
      case 6:
        a = some(1, 9);
        due("limits(" + a + ")", x.limits(a), ref.limits(a));
        break;
      default:
        due("undo()", x.undo(), ref.undo());
    }
  }

  private void look() {
    int a = some(0, 13), b = some(0, 6);
    due("odd(" + a + ", " + b + ")", x.odd(a, b), ref.odd(a, b));
    a = some(0, 5);
    b = some(0, 1);
    due("wanted(" + a + ", " + b + ")", x.wanted(a, b), ref.wanted(a, b));
    a = some(0, 7);
    due("count(" + a + ")", x.count(a), ref.count(a));
    a = some(1, 1023);
    due("digits(" + a + ")", x.digits(a), ref.digits(a));
    b = some(0, 11);
    due("digit(" + a + ", " + b + ")", x.digit(a, b), ref.digit(a, b));
    a = adder();
    b = some(-99999, 99999);
    due("product(" + a + ", " + b + ")", x.product(a, b), ref.product(a, b));
    a = some(1, 255);
    due("least(" + a + ")", x.least(a), ref.least(a));
  }

  private void lookNear() {
    int a = some(0, 1023), b = some(0, 1);
    due("near(" + a + ", " + b + ")", x.near(a, b), ref.near(a, b));
    a = oddNumber();
    for (b = 0; b < 4; b++) due("by(" + a + ", " + b + ")", x.by(a, b), ref.by(a, b));
    b = some(0, 3);
    due("by(" + a + ", " + b + ")", x.by(a, b), ref.by(a, b));
    a = oddNumber();
    due("two(" + a + ")", x.two(a), ref.two(a));
  }

  private void lookPlan() {
    for (int k = -2; k < 3; k++) due("plan(" + k + ")", x.plan(k), ref.plan(k));
    int k = some(-2, 12);
    due("plan(" + k + ")", x.plan(k), ref.plan(k));
  }

  private void ask() {
    int a = some(2, 9), b = some(0, Math.max(1, a % 10) - (a > 1 && a < 10 ? 1 : 0));
    if (random.nextInt(2) == 0) due("sees(" + a + ", " + b + ")", x.sees(a, b), ref.sees(a, b));
    if (random.nextInt(8) == 0) due("forget()", x.forget(), ref.forget());
    a = some(0, 1);
    due("unseen(" + a + ")", x.unseen(a), ref.unseen(a));
    due("next()", x.next(), ref.next());
  }

  private void picture() {
    int a = some(0, 1);
    if (random.nextBoolean()) due("keep(" + a + ")", x.keep(a), ref.keep(a));
    else due("back(" + a + ")", x.back(a), ref.back(a));
  }

  private void lookAtAll() {
    for (int k = 0; k < 13; k++)
      for (int what = 0; what < 7; what++)
        due("odd(" + k + ", " + what + ")", x.odd(k, what), ref.odd(k, what));
    for (int k = 0; k < 6; k++)
      for (int what = 0; what < 2; what++)
        due("wanted(" + k + ", " + what + ")", x.wanted(k, what), ref.wanted(k, what));
    for (int what = 0; what < 8; what++) due("count(" + what + ")", x.count(what), ref.count(what));
  }

  private void go() {
    while (calls < CALLS - LAST_LOOK - 20) {
      int die = random.nextInt(run % 2 == 0 ? 60 : 300);
      if (die == 0) tell();
      else if (die < 4) lookNear();
      else if (die < 8) look();
      else if (die == 8) lookPlan();
      else if (die < 12) ask();
      else if (die < 15) picture();
      else change();
    }
    lookAtAll();
    if (calls > CALLS) throw new IllegalStateException("a run of " + calls + " calls");
  }

  public static void main(String[] args) {
    for (int run = 1; run <= RUNS; run++) new RandomRunsTest(run).go();
    System.out.println(wrong == 0 ? "RandomRunsTest: all answers are as due" : wrong + " answers are not as due");
    if (wrong != 0) System.exit(1);
  }
}
