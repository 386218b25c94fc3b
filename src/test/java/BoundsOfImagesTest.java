/** The bounds of IMAGES and of what is counted: part 3 of the terms, promises 24 to 26. */
public final class BoundsOfImagesTest extends Tests {
  private static final int[] NO_IMAGE = {-1, 2, MIN, MAX};

  static void thereAreImages0And1() {
    ShiftAdds x = threes(1);
    for (int image : NO_IMAGE) {
      due("keep(" + image + ")", x.keep(image), BAD);
      due("back(" + image + "), though none was kept", x.back(image), BAD);
    }
    due("keep(0)", x.keep(0), 1);
    due("keep(1)", x.keep(1), 1);
    for (int image : NO_IMAGE) {
      due("keep(" + image + ")", x.keep(image), BAD);
      due("back(" + image + ")", x.back(image), BAD);
    }
    due("one is known still", x.count(7), 1);
    due("back(0)", x.back(0), 1);
    due("back(1)", x.back(1), 1);
  }

  static void noneWasKept() {
    ShiftAdds x = threes(2);
    due("back(0)", x.back(0), STATE);
    due("back(1)", x.back(1), STATE);
    x.keep(1);
    due("back(0)", x.back(0), STATE);
    due("back(1)", x.back(1), 2);
    x = threes(2);
    x.keep(0);
    due("back(1)", x.back(1), STATE);
    due("two are known still", x.count(7), 2);
    due("back(0)", x.back(0), 2);
  }

  static void anEmptyOneAndAFullOneAreKept() {
    ShiftAdds x = new ShiftAdds();
    due("keep(0)", x.keep(0), 0);
    x.limits(9);
    for (int n = 1; n <= 6; n++) x.wishes(n);
    for (int n = 0; n < 9; n++) x.adds(n, 0, n, 0);
    for (int n = 0; n < 3; n++) x.adds(0, n + 1, 0, 0);
    due("keep(1)", x.keep(1), 12);
    counts("full", x, 12, 6, 9, 0, 9, 0, 0, 10);
    due("back(0)", x.back(0), 0);
    counts("empty", x, 0, 0, 6, 0, 0, 0, 0, 0);
    due("odd(1, 0)", x.odd(1, 0), BAD);
    due("wanted(0, 0)", x.wanted(0, 0), BAD);
    due("back(1)", x.back(1), 12);
    counts("full", x, 12, 6, 9, 0, 9, 0, 0, 0);
    wanted("full", x, 1, 2, 3, 4, 5, 6);
    odd("the ninth", x, 9, 1, 9, 8, 8, 0, 0, 1);
    odd("the twelfth", x, 12, 9, 1, 0, 0, 3, 0, 0);
    due("a thirteenth", x.adds(0, 1, 0, 0), FULL);
    due("a seventh", x.wishes(7), FULL);
    due("a DEPTH is more", x.limits(8), STATE);
  }

  static void theNewerIsKept() {
    ShiftAdds x = threes(1);
    x.keep(0);
    x.adds(0, 2, 0, 0);
    due("kept anew", x.keep(0), 2);
    x.takes();
    x.takes();
    due("back(0)", x.back(0), 2);
    due("5", x.odd(2, 0), 5);
  }

  static void anImageDoesNotChange() {
    ShiftAdds x = told("l3;w5;w7;a0 1 0 0;");
    x.keep(0);
    x.back(0);
    x.adds(0, 2, 0, 0);
    x.takes();
    x.takes();
    x.adds(0, 3, 0, 0);
    x.wishes(5);
    x.wishes(9);
    x.limits(8);
    due("back(0)", x.back(0), 1);
    counts("as kept", x, 1, 2, 3, 2, 1, 0, 0, 0);
    odd("as kept", x, 1, 3, 1, 0, 0, 1, 0, 0);
    wanted("as kept", x, 5, 7);
    x.wishes(11);
    x.undo();
    due("back(0) once more", x.back(0), 1);
    wanted("as kept", x, 5, 7);
  }

  static void theTwelfthIsKept() {
    ShiftAdds x = threes(12);
    x.keep(0);
    x.takes();
    x.adds(11, 2, 0, 1);
    odd("another twelfth", x, 12, 11, 2, 11, 0, 2, 1, 0);
    due("keep(1)", x.keep(1), 12);
    due("back(0)", x.back(0), 12);
    odd("the first twelfth", x, 12, 3, 1, 0, 0, 1, 0, 0);
    due("back(1)", x.back(1), 12);
    odd("another twelfth", x, 12, 11, 2, 11, 0, 2, 1, 0);
  }

  static void oneImageDoesNotChangeTheOther() {
    ShiftAdds x = threes(1);
    x.keep(0);
    x.adds(0, 2, 0, 0);
    x.keep(1);
    due("back(0)", x.back(0), 1);
    x.takes();
    due("back(1)", x.back(1), 2);
    due("back(0)", x.back(0), 1);
    due("keep(1)", x.keep(1), 1);
    due("back(1)", x.back(1), 1);
  }

  static void nothingElseIsKept() {
    ShiftAdds x = threes(2);
    x.sees(3, 1);
    type(x, "w5");
    x.keep(0);
    x.sees(5, 1);
    type(x, ";w");
    due("back(0)", x.back(0), 2);
    due("SEEN stays", x.count(5), 2);
    due("the text stays", x.count(6), 4);
    due("nothing can be UNDONE", x.count(7), 0);
    due("nothing can be UNDONE", x.undo(), STATE);
    due("the text", x.graph(), -14);
  }

  static void whatIsNearIsAsTheImageHasIt() {
    ShiftAdds x = told("w11;");
    x.keep(0);
    x.adds(0, 1, 0, 0);
    x.keep(1);
    due("NEAR", x.near(9, 1), 11);
    plan(x, 0, 11);
    x.back(0);
    due("NEAR", x.near(9, 1), 15);
    plan(x, 0, 3, 11);
    x.back(1);
    due("NEAR", x.near(9, 1), 11);
    plan(x, 0, 11);
  }

  static void readAnewImagesAreGone() {
    ShiftAdds x = threes(1);
    x.keep(0);
    x.keep(1);
    x.type('#');
    due("a FAULT", x.graph(), -10);
    due("back(0)", x.back(0), 1);
    due("back(1)", x.back(1), 1);
    x.clear();
    due("graph()", x.graph(), 0);
    due("back(0)", x.back(0), STATE);
    due("back(1)", x.back(1), STATE);
    x.keep(0);
    due("back(0)", x.back(0), 0);
    due("back(1)", x.back(1), STATE);
  }

  // ---- count

  static void eightThingsAreCounted() {
    ShiftAdds x = threes(1);
    int[] bad = {-1, 8, 9, MIN, MAX};
    for (int what : bad) due("count(" + what + ")", x.count(what), BAD);
    counts("the others", x, 1, 0, 6, 0, 1, 0, 0, 1);
  }

  static void nothingIsCountedAtFirst() {
    counts("new", new ShiftAdds(), 0, 0, 6, 0, 0, 0, 0, 0);
  }

  static void allIsCountedWhereAllIsFull() {
    ShiftAdds x = chain(9);
    for (int n = 0; n < 3; n++) x.adds(0, 1, 0, 0);
    for (int n = 0; n < 6; n++) x.wishes(2 * n + 7);
    for (int n = 0; n < 6; n++) x.sees(2, 1);
    for (int n = 0; n < 80; n++) x.type(' ');
    counts("full", x, 12, 6, 9, 6, 9, 6, 80, 10);
  }

  static void theGreatestDepthNeedNotBeTheLast() {
    ShiftAdds x = chain(4);
    x.adds(0, 1, 0, 0);
    due("the greatest DEPTH", x.count(4), 4);
    x.takes();
    x.takes();
    due("the greatest DEPTH", x.count(4), 3);
  }

  public static void main(String[] args) {
    runAll(BoundsOfImagesTest.class);
  }
}
