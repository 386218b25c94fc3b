/** What can be UNDONE, and how much: part 2 of the terms, promise 11. */
public final class BoundsOfUndoTest extends Tests {

  static void nothingCanBeUndoneAtFirst() {
    ShiftAdds x = new ShiftAdds();
    due("undo()", x.undo(), STATE);
    due("undo()", x.undo(), STATE);
    due("count(7)", x.count(7), 0);
    counts("as at first", x, 0, 0, 6, 0, 0, 0, 0, 0);
  }

  static void oneCanBeUndoneAndThenNone() {
    ShiftAdds x = new ShiftAdds();
    x.wishes(5);
    due("count(7)", x.count(7), 1);
    due("undo()", x.undo(), 0);
    wanted("none", x);
    due("undo()", x.undo(), STATE);
    wanted("none", x);
  }

  static void tenAreKnown() {
    for (int changes = 9; changes <= 12; changes++) {
      ShiftAdds x = new ShiftAdds();
      for (int n = 1; n <= changes; n++) {
        x.adds(0, n % 9 + 1, 0, 0);
        due("count(7)", x.count(7), Math.min(n, 10));
      }
      int known = Math.min(changes, 10);
      for (int n = 1; n <= known; n++) {
        due("undo()", x.undo(), known - n);
        due("ADDERS", x.count(0), changes - n);
      }
      due("older ones are lost", x.undo(), STATE);
      due("ADDERS", x.count(0), changes - known);
    }
  }

  static void tenAreKnownRoundAndRound() {
    ShiftAdds x = new ShiftAdds();
    int[] limits = new int[80];
    limits[0] = 6;
    int now = 0;
    for (int round = 0; round < 12; round++) {
      int more = 3 + round % 5;
      for (int n = 0; n < more; n++) {
        now++;
        limits[now] = 1 + (7 * now + round) % 9;
        due("it was", x.limits(limits[now]), limits[now - 1]);
      }
      for (int n = 0; n < 2; n++) {
        now--;
        x.undo();
        due("THE LIMIT", x.count(2), limits[now]);
      }
    }
    due("known", x.count(7), 8);
    for (int n = 7; n >= 0; n--) {
      now--;
      due("undo()", x.undo(), n);
      due("THE LIMIT", x.count(2), limits[now]);
    }
    due("older ones are lost", x.undo(), STATE);
  }

  static void behindAllUndoneTenAreKnownAgain() {
    ShiftAdds x = new ShiftAdds();
    for (int n = 0; n < 10; n++) x.adds(0, 1, 0, 0);
    for (int n = 0; n < 10; n++) x.undo();
    due("undo()", x.undo(), STATE);
    due("ADDERS", x.count(0), 0);
    for (int n = 0; n < 11; n++) x.adds(0, 2, 0, 0);
    due("known", x.count(7), 10);
    for (int n = 9; n >= 0; n--) due("undo()", x.undo(), n);
    due("undo()", x.undo(), STATE);
    due("the eleventh from behind stays", x.odd(1, 0), 5);
    due("alone", x.count(0), 1);
  }

  static void eachOfTheFourIsUndone() {
    ShiftAdds x = told("l5;w3;w5;a0 1 0 0;a0 2 0 0;");
    x.adds(2, 1, 1, 3);
    x.takes();
    x.takes();
    x.wishes(3);
    x.wishes(7);
    x.limits(9);
    counts("changed", x, 1, 2, 9, 2, 1, 0, 0, 6);
    due("limits() undone", x.undo(), 5);
    due("THE LIMIT", x.count(2), 5);
    due("wishes(7) undone", x.undo(), 4);
    wanted("5", x, 5);
    due("wishes(3) undone", x.undo(), 3);
    wanted("3 where it was", x, 3, 5);
    due("takes() undone", x.undo(), 2);
    odd("5 again", x, 2, 5, 1, 0, 0, 2, 0, 0);
    due("takes() undone", x.undo(), 1);
    odd("5 less 6 again", x, 3, 1, 2, 2, 1, 1, 3, 0);
    due("adds() undone", x.undo(), 0);
    counts("as told", x, 2, 2, 5, 0, 1, 0, 0, 0);
  }

  static void anUndoIsNotUndone() {
    ShiftAdds x = new ShiftAdds();
    x.wishes(3);
    x.wishes(5);
    due("undo()", x.undo(), 1);
    due("undo()", x.undo(), 0);
    due("undo()", x.undo(), STATE);
    wanted("none", x);
  }

  static void refusedCallsAreNotKnown() {
    ShiftAdds x = told("w1;w2;w3;w4;w5;w6;a0 1 0 0;");
    x.adds(2, 0, 0, 0);
    x.adds(1, 0, 1, 1);
    x.wishes(0);
    x.wishes(7);
    x.limits(0);
    x.limits(10);
    due("count(7)", x.count(7), 0);
    x.takes();
    x.takes();
    due("takes() of none is not known", x.count(7), 1);
    x = chain(2);
    x.limits(1);
    due("limits() below a DEPTH is not known", x.count(7), 3);
    x = threes(12);
    for (int n = 0; n < 4; n++) x.adds(0, 2, 0, 0);
    due("undo() undoes the twelfth", x.undo(), 9);
    due("ADDERS", x.count(0), 11);
  }

  static void lookingIsNotKnown() {
    ShiftAdds x = told("w5;w43;a0 1 0 0;");
    x.type('w');
    x.clear();
    x.odd(0, 0);
    x.wanted(0, 0);
    x.digits(5);
    x.digit(5, 0);
    x.near(0, 0);
    x.by(5, 0);
    x.two(43);
    x.least(5);
    x.plan(-2);
    x.product(1, 5);
    x.sees(2, 1);
    x.unseen(0);
    x.next();
    x.forget();
    x.keep(0);
    x.count(0);
    due("count(7)", x.count(7), 0);
    due("undo()", x.undo(), STATE);
  }

  static void readingAnewAllIsLost() {
    ShiftAdds x = threes(3);
    due("graph()", x.graph(), 0);
    due("count(7)", x.count(7), 0);
    due("undo()", x.undo(), STATE);
    x = threes(12);
    x.type('w');
    due("graph() with a FAULT", x.graph(), -11);
    due("known still", x.count(7), 10);
    due("undo()", x.undo(), 9);
  }

  static void behindBackAllIsLost() {
    ShiftAdds x = threes(3);
    due("back() of none", x.back(0), STATE);
    due("back() of none such", x.back(2), BAD);
    due("known still", x.count(7), 3);
    due("keep()", x.keep(0), 3);
    due("known still", x.count(7), 3);
    due("back()", x.back(0), 3);
    due("count(7)", x.count(7), 0);
    due("undo()", x.undo(), STATE);
    x.takes();
    due("undo() of what came behind it", x.undo(), 0);
    due("ADDERS", x.count(0), 3);
  }

  static void theTextSeenAndImagesAreNotUndone() {
    ShiftAdds x = threes(1);
    x.keep(0);
    x.takes();
    x.sees(3, 1);
    type(x, "w5;");
    x.keep(1);
    due("undo()", x.undo(), 1);
    counts("3 again", x, 1, 0, 6, 0, 1, 1, 3, 1);
    due("IMAGE 1", x.back(1), 0);
    due("IMAGE 0", x.back(0), 1);
  }

  static void whatIsNearIsAsItWasAgain() {
    ShiftAdds x = told("w11;");
    due("NEAR", x.near(9, 1), 15);
    plan(x, 0, 3, 11);
    x.adds(0, 1, 0, 0);
    due("NEAR", x.near(9, 1), 11);
    plan(x, 0, 11);
    x.undo();
    due("NEAR", x.near(9, 1), 15);
    due("UNSEEN", x.unseen(1), 3);
    plan(x, 0, 3, 11);
    x.wishes(11);
    plan(x, 0);
    x.undo();
    plan(x, 0, 3, 11);
    x.limits(1);
    plan(x, 1);
    x.undo();
    plan(x, 0, 3, 11);
  }

  public static void main(String[] args) {
    runAll(BoundsOfUndoTest.class);
  }
}
