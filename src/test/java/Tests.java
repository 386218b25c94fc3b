import java.lang.reflect.InvocationTargetException;
import java.lang.reflect.Method;
import java.lang.reflect.Modifier;

/** What the tests by sentence have in common: the answers that are due, and objects in the states they need. */
abstract class Tests {
  static final int BAD = -1, STATE = -2, FULL = -3, NONE = -9;
  static final int MIN = Integer.MIN_VALUE, MAX = Integer.MAX_VALUE;
  private static final Check CHECK = new Check();
  private static String sentence = "";

  /** Runs every method of a class that takes nothing, each a test of its own, and ends the program if one fails. */
  static void runAll(Class<?> tests) {
    int run = 0;
    for (Method m : tests.getDeclaredMethods()) {
      if (m.getParameterCount() == 0 && m.getReturnType() == void.class && Modifier.isStatic(m.getModifiers())) {
        sentence = m.getName();
        runOne(m);
        run++;
      }
    }
    that("there are tests", run > 0);
    System.out.println(run + " tests");
    CHECK.end(tests.getName());
  }

  private static void runOne(Method m) {
    try {
      m.setAccessible(true);
      m.invoke(null);
    } catch (InvocationTargetException e) {
      e.getCause().printStackTrace(System.out);
      that("it ends without an exception", false);
    } catch (IllegalAccessException e) {
      that("it can be called", false);
    }
  }

  static void due(String call, long got, long want) {
    CHECK.due(sentence + ": " + call, got, want);
  }

  static void that(String what, boolean holds) {
    CHECK.that(sentence + ": " + what, holds);
  }

  static void type(ShiftAdds x, String text) {
    for (int i = 0; i < text.length(); i++) x.type(text.charAt(i));
  }

  /** A new object to which a text was told. */
  static ShiftAdds told(String text) {
    ShiftAdds x = new ShiftAdds();
    type(x, text);
    that("'" + text + "' can be read", x.graph() >= 0);
    return x;
  }

  /** A new object with so many ADDERS, each of VALUE 3 and DEPTH 1. */
  static ShiftAdds threes(int adders) {
    ShiftAdds x = new ShiftAdds();
    for (int n = 0; n < adders; n++) due("3 once more", x.adds(0, 1, 0, 0), 3);
    return x;
  }

  /** A new object with so many ADDERS of VALUE 1 (1 and 1, halved), each a step deeper, under a limit of 9. */
  static ShiftAdds chain(int depth) {
    ShiftAdds x = new ShiftAdds();
    due("limits(9)", x.limits(9), 6);
    for (int n = 0; n < depth; n++) due("a step deeper", x.adds(n, 0, n, 0), 1);
    return x;
  }

  static void counts(String when, ShiftAdds x, int... want) {
    for (int what = 0; what < 8; what++) due(when + ": count(" + what + ")", x.count(what), want[what]);
  }

  static void odd(String when, ShiftAdds x, int k, int... want) {
    for (int what = 0; what < 7; what++) due(when + ": odd(" + k + ", " + what + ")", x.odd(k, what), want[what]);
  }

  static void wanted(String when, ShiftAdds x, int... want) {
    due(when + ": count(1)", x.count(1), want.length);
    for (int k = 0; k < want.length; k++) due(when + ": wanted(" + k + ", 0)", x.wanted(k, 0), want[k]);
    due(when + ": wanted behind the last", x.wanted(want.length, 0), BAD);
  }

  static void by(ShiftAdds x, int v, int... want) {
    for (int what = 0; what < 4; what++) due("by(" + v + ", " + what + ")", x.by(v, what), want[what]);
  }

  static void plan(ShiftAdds x, int notMet, int... values) {
    due("plan(-2)", x.plan(-2), values.length);
    due("plan(-1)", x.plan(-1), notMet);
    for (int k = 0; k < values.length; k++) due("plan(" + k + ")", x.plan(k), values[k]);
    due("plan behind the last", x.plan(values.length), NONE);
    due("plan(MAX)", x.plan(MAX), NONE);
  }
}
