/** The bounds of ODDS, ADDERS, DEPTH and THE LIMIT: part 1 of the terms, promises 5, 7, 8 and 10. */
public final class BoundsOfAddersTest extends Tests {

  // ---- ODDS

  static void numberZeroIsOne() {
    odd("new", new ShiftAdds(), 0, 1, 0, NONE, NONE, NONE, NONE, 0);
    odd("with twelve", threes(12), 0, 1, 0, NONE, NONE, NONE, NONE, 0);
    ShiftAdds x = threes(1);
    x.takes();
    odd("one taken", x, 0, 1, 0, NONE, NONE, NONE, NONE, 0);
  }

  static void oddAnswersForOddsThatAreThere() {
    for (int n = 0; n <= 12; n++) {
      ShiftAdds x = threes(n);
      for (int what = 0; what < 7; what++) {
        due("ahead of the first", x.odd(-1, what), BAD);
        that("the last is there", x.odd(n, what) != BAD);
        due("behind the last of " + n, x.odd(n + 1, what), BAD);
      }
      due("far behind", x.odd(MAX, 0), BAD);
      due("far ahead", x.odd(MIN, 0), BAD);
    }
  }

  static void oddTellsSevenThings() {
    ShiftAdds x = told("a0 2 0 0;a1 3 0 3;");
    odd("ONE", x, 0, 1, 0, NONE, NONE, NONE, NONE, 0);
    odd("4 and 1", x, 1, 5, 1, 0, 0, 2, 0, 0);
    odd("5 less 8", x, 2, 3, 2, 1, 0, 3, 3, 0);
    for (int k = 0; k <= 2; k++) {
      due("odd(" + k + ", -1)", x.odd(k, -1), BAD);
      due("odd(" + k + ", 7)", x.odd(k, 7), BAD);
      due("odd(" + k + ", MIN)", x.odd(k, MIN), BAD);
      due("odd(" + k + ", MAX)", x.odd(k, MAX), BAD);
    }
  }

  static void anAdderTakenAwayIsNotThereAnyMore() {
    ShiftAdds x = told("a0 1 0 0;a0 2 0 0;");
    x.takes();
    due("odd(2, 0)", x.odd(2, 0), BAD);
    due("adds(2, 0, 0, 0)", x.adds(2, 0, 0, 0), BAD);
    due("adds(0, 0, 2, 0)", x.adds(0, 0, 2, 0), BAD);
    due("product(2, 1)", x.product(2, 1), 0);
    due("adds(1, 0, 0, 0)", x.adds(1, 0, 0, 0), 1);
    odd("another in its place", x, 2, 1, 2, 1, 0, 0, 0, 2);
  }

  // ---- p, q, the SHIFT, the FORM

  static void anAdderStandsOnOddsThatAreThere() {
    for (int n = 0; n < 12; n++) {
      ShiftAdds x = threes(n);
      for (int form = 0; form < 4; form++) {
        due("p is -1", x.adds(-1, 0, 0, form), BAD);
        due("q is -1", x.adds(0, 0, -1, form), BAD);
        due("p is behind " + n, x.adds(n + 1, 0, 0, form), BAD);
        due("q is behind " + n, x.adds(0, 0, n + 1, form), BAD);
        due("both are", x.adds(n + 1, 0, n + 1, form), BAD);
      }
      due("p is MIN", x.adds(MIN, 0, 0, 0), BAD);
      due("p is MAX", x.adds(MAX, 0, 0, 0), BAD);
      due("q is MIN", x.adds(0, 0, MIN, 0), BAD);
      due("q is MAX", x.adds(0, 0, MAX, 0), BAD);
      due("p is the last", x.adds(n, 1, 0, 0), n == 0 ? 3 : 7);
      x.takes();
      due("q is the last", x.adds(0, 1, n, 0), n == 0 ? 3 : 5);
      x.takes();
      due("both are the last", x.adds(n, 1, n, 0), n == 0 ? 3 : 9);
    }
  }

  static void theShiftIsZeroToNine() {
    int[] values = {1, 3, 5, 9, 17, 33, 65, 129, 257, 513};
    ShiftAdds x = new ShiftAdds();
    for (int s = 0; s <= 9; s++) due("shifted by " + s, x.adds(0, s, 0, 0), values[s]);
    for (int form = 0; form < 4; form++) {
      due("shifted by -1", x.adds(0, -1, 0, form), BAD);
      due("shifted by 10", x.adds(0, 10, 0, form), BAD);
      due("shifted by 32", x.adds(0, 32, 0, form), BAD);
      due("shifted by MIN", x.adds(0, MIN, 0, form), BAD);
      due("shifted by MAX", x.adds(0, MAX, 0, form), BAD);
    }
  }

  static void theFormIsZeroToThree() {
    ShiftAdds x = told("a0 1 0 0;a0 3 0 1;");
    due("4 times 3, and 7", x.adds(1, 2, 2, 0), 19);
    due("4 times 3 less 7", x.adds(1, 2, 2, 1), 5);
    due("3, and 4 times 7", x.adds(1, 2, 2, 2), 31);
    due("3 less 4 times 7", x.adds(1, 2, 2, 3), 25);
    int[] bad = {-1, 4, MIN, MAX};
    for (int form : bad) due("form " + form, x.adds(1, 2, 2, form), BAD);
  }

  // ---- what comes of an ADDER

  static void nothingComesOfOneLessItself() {
    ShiftAdds x = threes(2);
    for (int form = 1; form < 4; form += 2) {
      due("1 less 1", x.adds(0, 0, 0, form), STATE);
      due("3 less 3", x.adds(1, 0, 1, form), STATE);
      due("3 less another 3", x.adds(1, 0, 2, form), STATE);
      due("another 3 less 3", x.adds(2, 0, 1, form), STATE);
    }
    due("nothing is added", x.count(0), 2);
    due("3 and another 3", x.adds(1, 0, 2, 0), 3);
    due("another 3 and 3", x.adds(2, 0, 1, 2), 3);
  }

  static void oneAndTwoAreNotNothing() {
    ShiftAdds x = new ShiftAdds();
    due("2 less 1", x.adds(0, 1, 0, 1), 1);
    odd("2 less 1", x, 1, 1, 1, 0, 0, 1, 1, 0);
    due("1 less 2", x.adds(0, 1, 0, 3), 1);
    odd("1 less 2", x, 2, 1, 1, 0, 0, 1, 3, 0);
    due("1 and 1", x.adds(0, 0, 0, 0), 1);
    odd("1 and 1", x, 3, 1, 1, 0, 0, 0, 0, 1);
    x.adds(0, 1, 0, 0);
    due("3 less 1", x.adds(4, 0, 0, 1), 1);
    due("1 less 3", x.adds(0, 0, 4, 1), 1);
    due("1 less 3", x.adds(0, 0, 4, 3), 1);
  }

  /** 511, 513, 3, 1023 are numbers 1 to 4. */
  private static ShiftAdds great() {
    return told("a0 9 0 1;a0 9 0 0;a0 1 0 0;a0 9 1 0;");
  }

  static void whatComesOfForm0IsAtMost1023() {
    ShiftAdds x = great();
    due("512 and 511", x.adds(0, 9, 1, 0), 1023);
    due("512 and 513", x.adds(0, 9, 2, 0), STATE);
    due("511 and 511", x.adds(1, 0, 1, 0), 511);
    due("511 and 513, though 1 would be left", x.adds(1, 0, 2, 0), STATE);
    due("1023 and 1, though 1 would be left", x.adds(4, 0, 0, 0), STATE);
    due("513 and 513", x.adds(2, 0, 2, 0), STATE);
    due("512 times 1023, and 1023", x.adds(4, 9, 4, 0), STATE);
  }

  static void whatComesOfForm1IsAtMost1023() {
    ShiftAdds x = great();
    due("2 times 513 less 3", x.adds(2, 1, 3, 1), 1023);
    due("2 times 513 less 1", x.adds(2, 1, 0, 1), STATE);
    due("1023 less 1", x.adds(4, 0, 0, 1), 511);
    due("1 less 1023", x.adds(0, 0, 4, 1), 511);
    due("512 times 1023, less 1023", x.adds(4, 9, 4, 1), STATE);
    due("512 less 1023", x.adds(0, 9, 4, 1), 511);
  }

  static void whatComesOfForm2IsAtMost1023() {
    ShiftAdds x = great();
    due("511 and 512", x.adds(1, 9, 0, 2), 1023);
    due("513 and 512", x.adds(2, 9, 0, 2), STATE);
    due("511 and 511", x.adds(1, 0, 1, 2), 511);
    due("513 and 511, though 1 would be left", x.adds(2, 0, 1, 2), STATE);
    due("1023, and 512 times 1023", x.adds(4, 9, 4, 2), STATE);
  }

  static void whatComesOfForm3IsAtMost1023() {
    ShiftAdds x = great();
    due("3 less 2 times 513", x.adds(3, 1, 2, 3), 1023);
    due("1 less 2 times 513", x.adds(0, 1, 2, 3), STATE);
    due("1023 less 1", x.adds(4, 0, 0, 3), 511);
    due("1 less 1023", x.adds(0, 0, 4, 3), 511);
    due("1023 less 512", x.adds(4, 9, 0, 3), 511);
    due("1023, less 512 times 1023", x.adds(4, 9, 4, 3), STATE);
  }

  static void whatComesIsHalvedTillItIsOdd() {
    ShiftAdds x = great();
    odd("1023", x, 4, 1023, 2, 0, 1, 9, 0, 0);
    x.adds(1, 0, 0, 0);
    odd("512", x, 5, 1, 2, 1, 0, 0, 0, 9);
    x.adds(1, 0, 1, 0);
    odd("1022", x, 6, 511, 2, 1, 1, 0, 0, 1);
    x.adds(3, 0, 0, 2);
    odd("4", x, 7, 1, 2, 3, 0, 0, 2, 2);
    x.adds(0, 0, 0, 0);
    odd("2", x, 8, 1, 1, 0, 0, 0, 0, 1);
    x.adds(3, 0, 1, 3);
    odd("3 less 511", x, 9, 127, 2, 3, 1, 0, 3, 2);
  }

  // ---- DEPTH and THE LIMIT

  static void depthIsTheGreaterAndOne() {
    ShiftAdds x = chain(3);
    int[][] pairs = {{0, 0, 1}, {1, 0, 2}, {0, 1, 2}, {1, 1, 2}, {3, 0, 4}, {0, 3, 4}, {2, 3, 4}, {3, 2, 4}, {3, 3, 4}};
    for (int[] pair : pairs) {
      due("of " + pair[0] + " and " + pair[1], x.adds(pair[0], 1, pair[1], 0), 3);
      due("depth of " + pair[0] + " and " + pair[1], x.odd(4, 1), pair[2]);
      due("the greatest depth", x.count(4), Math.max(3, pair[2]));
      x.takes();
    }
  }

  static void depthIsNoMoreThanTheLimit() {
    for (int limit = 1; limit <= 9; limit++) {
      ShiftAdds x = new ShiftAdds();
      x.limits(limit);
      for (int n = 0; n < limit; n++) due("as deep as " + limit + " lets", x.adds(n, 0, n, 0), 1);
      due("greatest DEPTH", x.count(4), limit);
      due("p is too deep", x.adds(limit, 1, 0, 0), STATE);
      due("q is too deep", x.adds(0, 1, limit, 0), STATE);
      due("both are too deep", x.adds(limit, 1, limit, 0), STATE);
      due("not added", x.count(0), limit);
      due("one less deep", x.adds(limit - 1, 1, limit - 1, 0), 3);
    }
  }

  static void theLimitIsSixAtFirst() {
    ShiftAdds x = new ShiftAdds();
    due("count(2)", x.count(2), 6);
    for (int n = 0; n < 6; n++) due("six deep", x.adds(n, 0, n, 0), 1);
    due("seven deep", x.adds(6, 0, 6, 0), STATE);
    due("it was 6", x.limits(7), 6);
    due("seven deep", x.adds(6, 0, 6, 0), 1);
  }

  static void theLimitIsOneToNine() {
    ShiftAdds x = new ShiftAdds();
    int[] bad = {0, -1, 10, MIN, MAX};
    for (int limit : bad) due("limits(" + limit + ")", x.limits(limit), BAD);
    due("none of these is known", x.count(7), 0);
    int was = 6;
    for (int limit = 1; limit <= 9; limit++) {
      due("limits(" + limit + ")", x.limits(limit), was);
      due("count(2)", x.count(2), limit);
      was = limit;
    }
    for (int limit : bad) due("limits(" + limit + ")", x.limits(limit), BAD);
    due("still", x.count(2), 9);
  }

  static void theLimitIsNoLessThanAnyDepth() {
    for (int depth = 1; depth <= 9; depth++) {
      ShiftAdds x = chain(depth);
      x.adds(0, 1, 0, 0);
      for (int limit = 1; limit < depth; limit++) due("limits(" + limit + ")", x.limits(limit), STATE);
      due("still", x.count(2), 9);
      due("as deep as it is", x.limits(depth), 9);
      due("limits(0)", x.limits(0), BAD);
      due("it is that", x.count(2), depth);
    }
  }

  static void withoutAddersEveryLimitMayBe() {
    ShiftAdds x = threes(1);
    x.takes();
    due("limits(1)", x.limits(1), 6);
    due("DEPTH 1 may be", x.adds(0, 1, 0, 0), 3);
    due("limits(1) with it", x.limits(1), 1);
  }

  static void theLimitThatItIsMayBeTold() {
    ShiftAdds x = chain(2);
    due("limits(9)", x.limits(9), 9);
    due("limits(2)", x.limits(2), 9);
    due("limits(2)", x.limits(2), 2);
    due("all are known", x.count(7), 6);
    due("undo()", x.undo(), 5);
    due("2 still", x.count(2), 2);
    due("undo()", x.undo(), 4);
    due("9 again", x.count(2), 9);
  }

  static void theDeepestTakenAwayTheLimitMayBeLess() {
    ShiftAdds x = chain(3);
    due("limits(2)", x.limits(2), STATE);
    x.takes();
    due("limits(2)", x.limits(2), 9);
    due("undo()", x.undo(), 5);
    due("undo()", x.undo(), 4);
    due("limits(2)", x.limits(2), STATE);
    due("limits(3)", x.limits(3), 9);
  }

  // ---- twelve at most

  static void theTwelfthIsAddedAThirteenthIsNot() {
    ShiftAdds x = threes(11);
    due("the twelfth", x.adds(11, 1, 0, 0), 7);
    due("twelve", x.count(0), 12);
    odd("the twelfth", x, 12, 7, 2, 11, 0, 1, 0, 0);
    due("a thirteenth", x.adds(0, 1, 0, 0), FULL);
    due("a thirteenth of the twelfth", x.adds(12, 1, 12, 0), FULL);
    due("still twelve", x.count(0), 12);
    due("no thirteenth", x.odd(13, 0), BAD);
  }

  static void oneTakenAwayThereIsRoomAgain() {
    ShiftAdds x = threes(12);
    due("takes()", x.takes(), 3);
    due("another twelfth", x.adds(0, 2, 0, 0), 5);
    due("a thirteenth", x.adds(0, 2, 0, 0), FULL);
    due("undo()", x.undo(), 9);
    due("another twelfth", x.adds(0, 3, 0, 0), 9);
    due("a thirteenth", x.adds(0, 3, 0, 0), FULL);
    due("VALUE of the twelfth", x.odd(12, 0), 9);
    x.undo();
    x.undo();
    odd("the first twelfth", x, 12, 3, 1, 0, 0, 1, 0, 0);
  }

  static void stateIsAheadOfFull() {
    ShiftAdds x = threes(12);
    due("nothing comes", x.adds(0, 0, 0, 1), STATE);
    due("nothing comes", x.adds(12, 0, 1, 3), STATE);
    due("too much comes", x.adds(1, 9, 0, 0), STATE);
    due("256 times 3, and 3, may be", x.adds(1, 8, 2, 0), FULL);
    due("limits(1)", x.limits(1), 6);
    due("too deep", x.adds(1, 1, 0, 0), STATE);
    due("not too deep", x.adds(0, 1, 0, 0), FULL);
  }

  static void badIsAheadOfStateAndFull() {
    ShiftAdds x = threes(12);
    due("p", x.adds(13, 0, 0, 1), BAD);
    due("p", x.adds(-1, 0, 0, 1), BAD);
    due("q", x.adds(0, 0, 13, 1), BAD);
    due("q", x.adds(0, 0, -1, 1), BAD);
    due("the shift", x.adds(1, 10, 0, 0), BAD);
    due("the shift", x.adds(1, -1, 1, 1), BAD);
    due("the form", x.adds(0, 0, 0, 4), BAD);
    due("the form", x.adds(0, 0, 0, -1), BAD);
    x.limits(1);
    due("the form, too deep", x.adds(1, 0, 1, 4), BAD);
    due("the limit, though a DEPTH is more", x.limits(0), BAD);
    due("the limit", x.limits(10), BAD);
  }

  // ---- TAKEN

  static void nothingIsTakenOfNone() {
    ShiftAdds x = new ShiftAdds();
    due("takes()", x.takes(), STATE);
    due("nothing known", x.count(7), 0);
    x = threes(1);
    due("takes()", x.takes(), 3);
    due("takes()", x.takes(), STATE);
    due("two are known", x.count(7), 2);
    odd("ONE stays", x, 0, 1, 0, NONE, NONE, NONE, NONE, 0);
  }

  static void theLastIsTakenTillThereIsNone() {
    ShiftAdds x = new ShiftAdds();
    int[] values = {3, 5, 9, 17, 33, 65, 129, 257, 513, 7, 15, 31};
    for (int n = 0; n < 12; n++) x.adds(0, n < 9 ? n + 1 : n - 6, 0, n < 9 ? 0 : 1);
    for (int n = 11; n >= 0; n--) {
      due("takes()", x.takes(), values[n]);
      due("ADDERS", x.count(0), n);
      due("greatest DEPTH", x.count(4), n == 0 ? 0 : 1);
    }
    due("takes()", x.takes(), STATE);
  }

  public static void main(String[] args) {
    runAll(BoundsOfAddersTest.class);
  }
}
