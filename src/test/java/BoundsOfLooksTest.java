/** The bounds of DIGITS, NEAR, BY, TWO, LEAST, PLAN and PRODUCT: part 3 of the terms, promises 12 to 19. */
public final class BoundsOfLooksTest extends Tests {
  private static final int[] NO_ODD_NUMBER = {0, -1, -3, 2, 512, 1022, 1024, 1025, MIN, MIN + 1, MAX, MAX - 1};

  // ---- DIGITS

  static void digitsAreOfOneTo1023() {
    ShiftAdds x = new ShiftAdds();
    int[] bad = {0, -1, 1024, 1025, MIN, MAX};
    for (int v : bad) {
      due("digits(" + v + ")", x.digits(v), BAD);
      for (int k = 0; k < 12; k++) due("digit(" + v + ", " + k + ")", x.digit(v, k), BAD);
    }
    due("digits(1)", x.digits(1), 1);
    due("digits(2)", x.digits(2), 1);
    due("digits(1022), 1024 less 2", x.digits(1022), 2);
    due("digits(1023), 1024 less 1", x.digits(1023), 2);
  }

  private static void digitsOf(int v, int... want) {
    ShiftAdds x = new ShiftAdds();
    int notZero = 0;
    for (int k = 0; k < 12; k++) {
      due("digit(" + v + ", " + k + ")", x.digit(v, k), want[k] + 1);
      notZero += want[k] == 0 ? 0 : 1;
    }
    due("digits(" + v + ")", x.digits(v), notZero);
  }

  static void digitsAre0To11() {
    ShiftAdds x = new ShiftAdds();
    int[] bad = {-1, 12, 13, 31, 32, MIN, MAX};
    int[] all = {1, 2, 511, 1022, 1023};
    for (int v : all) {
      for (int k : bad) due("digit(" + v + ", " + k + ")", x.digit(v, k), BAD);
    }
    digitsOf(1, 1, 0, 0, 0, 0, 0, 0, 0, 0, 0, 0, 0);
    digitsOf(2, 0, 1, 0, 0, 0, 0, 0, 0, 0, 0, 0, 0);
    digitsOf(3, -1, 0, 1, 0, 0, 0, 0, 0, 0, 0, 0, 0);
    digitsOf(5, 1, 0, 1, 0, 0, 0, 0, 0, 0, 0, 0, 0);
    digitsOf(512, 0, 0, 0, 0, 0, 0, 0, 0, 0, 1, 0, 0);
    digitsOf(1022, 0, -1, 0, 0, 0, 0, 0, 0, 0, 0, 1, 0);
    digitsOf(1023, -1, 0, 0, 0, 0, 0, 0, 0, 0, 0, 1, 0);
  }

  static void noTwoSideBySideAreNotZero() {
    digitsOf(683, -1, 0, -1, 0, -1, 0, -1, 0, -1, 0, 1, 0);
    digitsOf(682, 0, 1, 0, 1, 0, 1, 0, 1, 0, 1, 0, 0);
    digitsOf(11, -1, 0, -1, 0, 1, 0, 0, 0, 0, 0, 0, 0);
    digitsOf(27, -1, 0, -1, 0, 0, 1, 0, 0, 0, 0, 0, 0);
  }

  // ---- NEAR

  static void nearIsMoreThanVNeverBelowZero() {
    ShiftAdds x = new ShiftAdds();
    int[] bad = {-1, -2, MIN};
    for (int v : bad) {
      due("near(" + v + ", 0)", x.near(v, 0), BAD);
      due("near(" + v + ", 1)", x.near(v, 1), BAD);
    }
    due("near(0, 0)", x.near(0, 0), 16);
    due("near(0, 1)", x.near(0, 1), 3);
    due("near(2, 0)", x.near(2, 0), 16);
    due("near(2, 1)", x.near(2, 1), 3);
    due("near(3, 0)", x.near(3, 0), 15);
    due("near(3, 1)", x.near(3, 1), 5);
    due("near(512, 0)", x.near(512, 0), 1);
    due("near(512, 1)", x.near(512, 1), 513);
    int[] behind = {513, 514, 1022, 1023, 1024, 99999, MAX};
    for (int v : behind) {
      due("near(" + v + ", 0)", x.near(v, 0), 0);
      due("near(" + v + ", 1)", x.near(v, 1), NONE);
    }
  }

  static void nearTellsTwoThings() {
    ShiftAdds x = new ShiftAdds();
    int[] bad = {-1, 2, MIN, MAX};
    for (int what : bad) {
      due("near(0, " + what + ")", x.near(0, what), BAD);
      due("near(1023, " + what + ")", x.near(1023, what), BAD);
      due("near(-1, " + what + ")", x.near(-1, what), BAD);
    }
  }

  static void the1023MayBeNear() {
    ShiftAdds x = told("a0 5 0 1;");
    due("near(1022, 0), 31 times 33", x.near(1022, 0), 1);
    due("near(1022, 1)", x.near(1022, 1), 1023);
    due("near(1023, 0)", x.near(1023, 0), 0);
    due("near(1023, 1)", x.near(1023, 1), NONE);
    by(x, 1023, 1, 1, 5, 0);
    x = told("a0 9 0 0;");
    due("512 and 513 is too much, 1026 less 1 too", x.near(1023, 0), 0);
  }

  static void moreThan1023DoesNotComeThoughItCouldBeHalved() {
    ShiftAdds x = told("a0 5 0 1;a1 5 1 0;a0 3 0 1;");
    due("1023 and 7 is 1030", x.adds(2, 0, 3, 0), STATE);
    by(x, 515, NONE, NONE, NONE, NONE);
    that("515 is not NEAR", x.near(514, 1) != 515);
    due("1023 less 7 is 1016", x.adds(2, 0, 3, 1), 127);
  }

  static void aShiftOf0CanBeTheOnlyWay() {
    ShiftAdds x = told("a0 2 0 0;a1 3 1 0;");
    due("45", x.odd(2, 0), 45);
    due("1 and 45 is 46, halved", x.near(22, 1), 23);
    by(x, 23, 0, 2, 0, 0);
    x.limits(2);
    by(x, 23, NONE, NONE, NONE, NONE);
  }

  static void oddsAreNotNear() {
    ShiftAdds x = new ShiftAdds();
    due("1 and 1 is 2, halved 1", x.near(0, 1), 3);
    x.limits(1);
    x.adds(0, 1, 0, 0);
    due("3 is there", x.near(0, 1), 5);
    due("one less", x.near(0, 0), 15);
    x.adds(0, 9, 0, 0);
    due("513 is there", x.near(511, 1), NONE);
    due("one less", x.near(0, 0), 14);
    x.takes();
    due("513 is NEAR", x.near(511, 1), 513);
  }

  static void tooDeepIsNotNear() {
    ShiftAdds x = chain(5);
    x.adds(5, 1, 5, 0);
    due("6 deep", x.odd(6, 1), 6);
    x.limits(6);
    due("nothing of 3", x.near(9, 1), 15);
    by(x, 11, NONE, NONE, NONE, NONE);
    due("15 of ONE", x.near(0, 0), 15);
    x.limits(7);
    due("11 of 3", x.near(9, 1), 11);
    by(x, 11, 0, 6, 2, 3);
  }

  static void fewAreNearUnderALimitOfOne() {
    ShiftAdds x = new ShiftAdds();
    x.limits(1);
    int[] made = {3, 5, 9, 17, 33, 65, 129, 257, 513, 7, 15, 31};
    for (int n = 0; n < 12; n++) due("adds()", x.adds(0, n < 9 ? n + 1 : n - 6, 0, n < 9 ? 0 : 1), made[n]);
    due("63, 127, 255, 511 are left", x.near(0, 0), 4);
    due("63", x.near(0, 1), 63);
    due("127", x.near(63, 1), 127);
    due("255", x.near(127, 1), 255);
    due("511", x.near(255, 1), 511);
    due("none", x.near(511, 1), NONE);
    for (int v = 1; v <= 61; v += 2) due("by(" + v + ", 0)", x.by(v, 0), NONE);
  }

  static void withTwelveAddersNumbersAreNearStill() {
    ShiftAdds x = threes(12);
    due("5", x.near(0, 1), 5);
    due("11", x.near(9, 1), 11);
    by(x, 11, 0, 1, 2, 3);
    due("43 by 5", x.two(43), 5);
    due("5", x.unseen(1), 5);
  }

  // ---- BY

  static void byIsOfOddNumbers1To1023() {
    ShiftAdds x = new ShiftAdds();
    for (int what = 0; what < 4; what++) {
      for (int v : NO_ODD_NUMBER) due("by(" + v + ", " + what + ")", x.by(v, what), BAD);
    }
    by(x, 1, NONE, NONE, NONE, NONE);
    by(x, 1023, NONE, NONE, NONE, NONE);
    by(x, 3, 0, 0, 1, 0);
    by(x, 513, 0, 0, 9, 0);
    by(x, 511, 0, 0, 9, 1);
    by(x, 515, NONE, NONE, NONE, NONE);
  }

  static void byTellsFourThings() {
    ShiftAdds x = new ShiftAdds();
    int[] bad = {-1, 4, MIN, MAX};
    int[] all = {1, 3, 11, 1023, 0, 1025};
    for (int v : all) {
      for (int what : bad) due("by(" + v + ", " + what + ")", x.by(v, what), BAD);
    }
  }

  static void byIsTheFirst() {
    ShiftAdds x = told("a0 1 0 0;a0 2 0 0;");
    due("3", x.odd(1, 0), 3);
    due("5", x.odd(2, 0), 5);
    by(x, 11, 0, 1, 2, 3);
    by(x, 7, 0, 0, 3, 1);
    by(x, 9, 0, 0, 3, 0);
    by(x, 13, 0, 1, 2, 2);
    by(x, 21, 0, 2, 2, 2);
    by(x, 43, 1, 2, 3, 2);
    by(x, 5, NONE, NONE, NONE, NONE);
  }

  static void byIsTheFirstOfTwoOfTheSameValue() {
    ShiftAdds x = threes(12);
    by(x, 11, 0, 1, 2, 3);
    by(x, 27, 1, 1, 3, 0);
    x = chain(2);
    by(x, 3, 0, 0, 1, 0);
  }

  static void byTheLastOfTwelve() {
    ShiftAdds x = threes(11);
    x.adds(0, 5, 0, 1);
    by(x, 1023, 12, 12, 5, 0);
    by(x, 995, 1, 12, 5, 2);
    by(x, 993, 0, 12, 5, 2);
  }

  // ---- TWO

  static void twoIsOfOddNumbers1To1023() {
    ShiftAdds x = new ShiftAdds();
    for (int v : NO_ODD_NUMBER) due("two(" + v + ")", x.two(v), BAD);
    due("two(1), it is there", x.two(1), NONE);
    due("two(3), it is NEAR", x.two(3), NONE);
    due("two(513), it is NEAR", x.two(513), NONE);
    due("two(11), 8 and 3", x.two(11), 3);
    due("two(1023), 33 times 31", x.two(1023), 31);
    due("two(1021), 4 times 255, and 1", x.two(1021), 255);
    due("two(43), by none", x.two(43), NONE);
  }

  static void whatIsThereOrNearHasNoTwo() {
    ShiftAdds x = threes(1);
    due("3 is there", x.two(3), NONE);
    due("11 is NEAR", x.two(11), NONE);
    due("43 is neither", x.two(43), 5);
    x.takes();
    due("3 is NEAR", x.two(3), NONE);
    due("11 is not", x.two(11), 3);
    due("43 has none", x.two(43), NONE);
  }

  static void twoLieWithinTheLimit() {
    ShiftAdds x = new ShiftAdds();
    x.limits(1);
    due("not two deep", x.two(11), NONE);
    x.limits(2);
    due("two deep", x.two(11), 3);
    x = told("l2;a0 1 0 0;");
    due("5, and 8 times 5, and 3", x.two(43), 5);
    x.limits(1);
    due("not two deep", x.two(43), NONE);
  }

  static void twoIsAsDeepAsByMakesIt() {
    ShiftAdds x = told("l4;a0 0 0 0;a1 0 1 0;a2 1 2 0;a0 2 0 0;");
    due("3, three deep", x.odd(3, 1), 3);
    due("5, one deep", x.odd(4, 1), 1);
    by(x, 13, 0, 3, 2, 2);
    due("13 by 3 is four deep, though by 5 it were two", x.two(819), NONE);
    x.limits(5);
    due("63 times 13 may be five deep", x.two(819), 13);
  }

  static void theLastOfTwoStandsOnNothingTooDeep() {
    ShiftAdds x = chain(5);
    x.adds(5, 1, 5, 0);
    due("3, six deep", x.odd(6, 1), 6);
    x.limits(6);
    due("8 times 5, and 3, would be seven deep", x.two(43), NONE);
    x.limits(7);
    due("seven deep may be", x.two(43), 5);
  }

  static void theLastOfTwoMakesNoMoreThan1023() {
    ShiftAdds x = told("a0 3 0 1;a1 7 1 1;");
    due("889", x.odd(2, 0), 889);
    by(x, 225, 0, 1, 5, 2);
    due("225 and 889 is 1114, which is 2 times 557: not 225, but 445 and 16 times 7", x.two(557), 445);
  }

  static void theLastOfTwoShiftsByNine() {
    ShiftAdds x = new ShiftAdds();
    due("512 less 3", x.two(509), 3);
    due("512 and 3", x.two(515), 3);
    due("512 less 9", x.two(503), 9);
    due("512 and 17", x.two(529), 17);
  }

  static void theLastOfTwoMayMakeLess() {
    ShiftAdds x = told("a0 3 0 1;a0 8 0 1;");
    due("64 times 7 less 255", x.by(193, 0), 1);
    due("193 less 2 times 7", x.two(179), 193);
  }

  static void twoMayBe1023() {
    ShiftAdds x = told("l3;w839;a0 5 0 1;a1 3 0 3;");
    due("31 less 8, two deep", x.odd(2, 1), 2);
    by(x, 1023, 1, 1, 5, 0);
    due("1023 less 8 times 23, three deep", x.two(839), 1023);
    plan(x, 0, 1023, 839);
    x.limits(2);
    due("not two deep", x.two(839), NONE);
    plan(x, 1);
  }

  static void aNearNumberAsDeepAsTheLimitIsNoTwo() {
    ShiftAdds x = told("l2;w899;a0 5 0 1;");
    by(x, 1023, 1, 1, 5, 0);
    due("1023 less 4 times 31 would be three deep", x.two(899), NONE);
    plan(x, 1);
    x.limits(3);
    due("31 times 29 may be three deep", x.two(899), 29);
    plan(x, 0, 29, 899);
  }

  static void twoIsTheLowest() {
    ShiftAdds x = new ShiftAdds();
    due("11 of 3, not of 5, 7, 9", x.two(11), 3);
    due("45 of 3, not of 5, 9, 15", x.two(45), 3);
    due("51 of 3, not of 17", x.two(51), 3);
    due("35 of 3, not of 5, 7", x.two(35), 3);
    due("1023 of 31, not of 33, 511", x.two(1023), 31);
  }

  // ---- LEAST

  static void leastIsOf1To255() {
    ShiftAdds x = new ShiftAdds();
    int[] bad = {0, -1, 256, 257, MIN, MAX};
    for (int v : bad) due("least(" + v + ")", x.least(v), BAD);
    due("least(1)", x.least(1), 0);
    due("least(2)", x.least(2), 0);
    due("least(128)", x.least(128), 0);
    due("least(254)", x.least(254), 1);
    due("least(255)", x.least(255), 1);
  }

  static void leastIs0To3() {
    ShiftAdds x = new ShiftAdds();
    int[] one = {3, 5, 6, 7, 9, 15, 17, 31, 33, 63, 65, 127, 129, 254, 255};
    for (int v : one) due("least(" + v + ")", x.least(v), 1);
    int[] two = {11, 13, 19, 21, 22, 45, 51, 85, 253};
    for (int v : two) due("least(" + v + ")", x.least(v), 2);
    int[] three = {43, 53, 86, 172};
    for (int v : three) due("least(" + v + ")", x.least(v), 3);
    for (int v = 1; v <= 255; v++) {
      int least = x.least(v);
      that("least(" + v + ") is 0 .. 3", least >= 0 && least <= 3);
    }
  }

  static void leastIsOfOneAloneWithoutALimit() {
    ShiftAdds x = told("l1;a0 1 0 0;a0 2 0 0;");
    due("least(3), though it is there", x.least(3), 1);
    due("least(11), though it is too deep", x.least(11), 2);
    due("least(43)", x.least(43), 3);
    x = told("a0 1 0 0;a1 2 0 1;a0 5 2 0;");
    due("43 is there", x.odd(3, 0), 43);
    due("least(43)", x.least(43), 3);
    due("least(11)", x.least(11), 2);
  }

  // ---- PLAN

  static void planIsNotBelowMinusTwo() {
    ShiftAdds x = told("w3;");
    int[] bad = {-3, -4, MIN};
    for (int k : bad) due("plan(" + k + ")", x.plan(k), BAD);
    plan(x, 0, 3);
    int[] behind = {1, 2, 11, 12, 13, MAX};
    for (int k : behind) due("plan(" + k + ")", x.plan(k), NONE);
  }

  static void nothingWantedNothingPlanned() {
    plan(new ShiftAdds(), 0);
    plan(threes(12), 0);
  }

  static void allMetNothingPlanned() {
    plan(told("w1;w2;w512;w3;w6;a0 1 0 0;"), 0);
  }

  static void theLowestThatIsNearIsMade() {
    plan(told("w9;w5;w3;"), 0, 3, 5, 9);
    plan(told("w7;w6;"), 0, 3, 7);
    plan(told("w6;w3;w12;"), 0, 3);
    plan(told("w513;w11;"), 0, 513, 3, 11);
  }

  static void elseTheLowestThatHasTwo() {
    plan(told("w1023;w11;"), 0, 3, 11, 31, 1023);
    plan(told("w43;w11;"), 0, 3, 11, 43);
    plan(told("w43;w3;"), 0, 3, 5, 43);
  }

  static void elseThePlanEnds() {
    plan(told("w43;"), 1);
    plan(told("l1;w11;"), 1);
    plan(told("l2;w11;"), 0, 3, 11);
    plan(told("l1;w11;w5;w13;"), 2, 5);
    plan(told("l1;w11;w22;w5;"), 2, 5);
  }

  static void twelveAddersAreTheMost() {
    ShiftAdds x = threes(12);
    x.wishes(5);
    plan(x, 1);
    x.takes();
    plan(x, 0, 5);
    x.wishes(7);
    plan(x, 1, 5);
    x.takes();
    plan(x, 0, 5, 7);
  }

  static void theTwelfthIsMadeThoughAThirteenthWouldBeNeeded() {
    ShiftAdds x = threes(11);
    x.wishes(43);
    plan(x, 1, 5);
    x.takes();
    plan(x, 0, 5, 43);
  }

  private static int oddPart(int v) {
    return v / Integer.lowestOneBit(v);
  }

  /** What the plan's next step is by NEAR and TWO of the WANTED that are not MET; NONE: it ends. */
  private static int nextStep(ShiftAdds x) {
    int near = MAX, far = MAX;
    for (int k = 0; k < x.count(1); k++) {
      int part = oddPart(x.wanted(k, 0));
      if (x.by(part, 0) != NONE) near = Math.min(near, part);
      else if (x.two(part) != NONE) far = Math.min(far, part);
    }
    return near != MAX ? near : far != MAX ? x.two(far) : NONE;
  }

  private static void isFollowed(ShiftAdds x, int made, int notMet) {
    due("plan(-2)", x.plan(-2), made);
    due("plan(-1)", x.plan(-1), notMet);
    due("plan behind the last", x.plan(made), NONE);
    for (int k = 0; k < made; k++) {
      int v = x.plan(0), last = x.plan(made - k - 1);
      due("the next step", v, nextStep(x));
      due("made BY, as planned", x.adds(x.by(v, 0), x.by(v, 2), x.by(v, 1), x.by(v, 3)), v);
      due("one less is planned", x.plan(-2), made - k - 1);
      if (k < made - 1) due("the last is the same", x.plan(made - k - 2), last);
    }
    due("as many are not MET", x.count(3), notMet);
  }

  static void aPlanOfTwelveMeetsAll() {
    ShiftAdds x = told("l9;w635;w547;w977;w476;w789;w541;");
    isFollowed(x, 12, 0);
    due("twelve", x.count(0), 12);
  }

  static void aPlanUpToTwelveDoesNotMeetAll() {
    ShiftAdds x = told("l9;w877;w445;w584;w662;w485;w599;a0 1 0 0;");
    isFollowed(x, 11, 1);
    due("twelve", x.count(0), 12);
  }

  // ---- PRODUCT

  static void theFactorIsWithin99999() {
    ShiftAdds x = told("a0 5 0 1;a1 5 1 0;");
    int[] values = {1, 31, 1023};
    int[] bad = {-100000, 100000, -100001, 100001, MIN, MAX};
    int[] good = {-99999, 99999, -99998, 99998, -1, 0, 1, 7};
    for (int k = 0; k < 3; k++) {
      for (int factor : bad) due("product(" + k + ", " + factor + ")", x.product(k, factor), 0);
      for (int factor : good) due("product(" + k + ", " + factor + ")", x.product(k, factor), (long) values[k] * factor);
    }
    due("the greatest", x.product(2, 99999), 102298977L);
    due("the least", x.product(2, -99999), -102298977L);
  }

  static void productIsOfOddsThatAreThere() {
    for (int n = 0; n <= 12; n++) {
      ShiftAdds x = threes(n);
      due("product(-1, 7)", x.product(-1, 7), 0);
      due("product(0, 7)", x.product(0, 7), 7);
      due("the last", x.product(n, 7), n == 0 ? 7 : 21);
      due("behind the last", x.product(n + 1, 7), 0);
      due("product(MIN, 7)", x.product(MIN, 7), 0);
      due("product(MAX, 7)", x.product(MAX, 7), 0);
    }
  }

  static void aProductIsHalvedAsItsValueIs() {
    ShiftAdds x = told("a0 9 0 1;a1 0 0 0;a0 1 1 3;");
    odd("512 halved", x, 2, 1, 2, 1, 0, 0, 0, 9);
    odd("1 less 1022", x, 3, 1021, 2, 0, 1, 1, 3, 0);
    due("product(2, 99999)", x.product(2, 99999), 99999);
    due("product(2, -3)", x.product(2, -3), -3);
    due("product(3, 3)", x.product(3, 3), 3063);
    due("product(3, -3)", x.product(3, -3), -3063);
    due("product(3, 0)", x.product(3, 0), 0);
  }

  public static void main(String[] args) {
    runAll(BoundsOfLooksTest.class);
  }
}
