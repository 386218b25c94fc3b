/** The bounds of SEEN, UNSEEN and ASK: part 3 of the terms, promises 20 to 23. */
public final class BoundsOfSeenTest extends Tests {

  static void theDivisorIsTwoToNine() {
    ShiftAdds x = new ShiftAdds();
    int[] bad = {1, 0, -1, 10, 11, MIN, MAX};
    for (int m : bad) {
      due("sees(" + m + ", 0)", x.sees(m, 0), BAD);
      due("sees(" + m + ", 1)", x.sees(m, 1), BAD);
    }
    due("nothing is SEEN", x.count(5), 0);
    due("sees(2, 1)", x.sees(2, 1), 1);
    due("sees(9, 1)", x.sees(9, 1), 2);
  }

  static void whatIsLeftIsLessThanTheDivisor() {
    for (int m = 2; m <= 9; m++) {
      ShiftAdds x = new ShiftAdds();
      due("sees(" + m + ", -1)", x.sees(m, -1), BAD);
      due("sees(" + m + ", " + m + ")", x.sees(m, m), BAD);
      due("sees(" + m + ", MIN)", x.sees(m, MIN), BAD);
      due("sees(" + m + ", MAX)", x.sees(m, MAX), BAD);
      due("nothing is SEEN", x.count(5), 0);
      due("sees(" + m + ", 0)", x.sees(m, 0), 1);
      due("sees(" + m + ", " + (m - 1) + ")", x.sees(m, m - 1), 2);
    }
  }

  static void sixAreSeenASeventhIsNot() {
    ShiftAdds x = new ShiftAdds();
    for (int n = 1; n <= 6; n++) due("sees(3, 0)", x.sees(3, 0), n);
    due("a seventh", x.sees(3, 1), FULL);
    due("a seventh", x.sees(3, 0), FULL);
    due("SEEN", x.count(5), 6);
    due("3, 9, 15, 33, 63, 129, 255, 513", x.unseen(0), 8);
    due("BAD is ahead of FULL", x.sees(1, 0), BAD);
    due("BAD is ahead of FULL", x.sees(10, 0), BAD);
    due("BAD is ahead of FULL", x.sees(3, 3), BAD);
    due("BAD is ahead of FULL", x.sees(3, -1), BAD);
  }

  static void theSixthCounts() {
    ShiftAdds x = new ShiftAdds();
    for (int n = 1; n <= 5; n++) x.sees(2, 1);
    due("all", x.unseen(0), 16);
    due("sees(9, 4)", x.sees(9, 4), 6);
    due("31", x.unseen(0), 1);
    due("31", x.unseen(1), 31);
  }

  static void forgetTellsHowMuchWasSeen() {
    ShiftAdds x = new ShiftAdds();
    due("of none", x.forget(), 0);
    x.sees(3, 0);
    due("of one", x.forget(), 1);
    due("of none", x.forget(), 0);
    for (int n = 1; n <= 6; n++) x.sees(3, 0);
    due("of six", x.forget(), 6);
    due("SEEN", x.count(5), 0);
    due("all again", x.unseen(0), 16);
    for (int n = 1; n <= 6; n++) due("room for six", x.sees(3, 1), n);
    due("not for a seventh", x.sees(3, 1), FULL);
    due("7, 31, 127, 511", x.unseen(0), 4);
  }

  static void unseenTellsTwoThings() {
    ShiftAdds x = new ShiftAdds();
    int[] bad = {-1, 2, MIN, MAX};
    for (int what : bad) due("unseen(" + what + ")", x.unseen(what), BAD);
    due("how many", x.unseen(0), 16);
    due("the least", x.unseen(1), 3);
    x.sees(2, 0);
    for (int what : bad) due("unseen(" + what + ")", x.unseen(what), BAD);
  }

  static void noneCanBe() {
    ShiftAdds x = new ShiftAdds();
    due("no odd number is even", x.sees(2, 0), 1);
    due("how many", x.unseen(0), 0);
    due("the least", x.unseen(1), NONE);
    due("nothing to ask", x.next(), NONE);
    x.forget();
    x.sees(3, 0);
    x.sees(9, 1);
    due("how many", x.unseen(0), 0);
    due("the least", x.unseen(1), NONE);
    due("nothing to ask", x.next(), NONE);
  }

  static void oneCanBe() {
    ShiftAdds x = new ShiftAdds();
    x.sees(8, 3);
    due("3 alone", x.unseen(0), 1);
    due("3 alone", x.unseen(1), 3);
    due("nothing to ask", x.next(), NONE);
    x.forget();
    x.sees(8, 1);
    x.sees(9, 0);
    x.sees(7, 2);
    due("9, 513", x.unseen(0), 2);
    x.sees(5, 3);
    due("513, the greatest", x.unseen(0), 1);
    due("513, the greatest", x.unseen(1), 513);
    due("nothing to ask", x.next(), NONE);
  }

  static void twoCanBe() {
    ShiftAdds x = new ShiftAdds();
    x.sees(7, 1);
    due("15, 127", x.unseen(0), 2);
    due("15", x.unseen(1), 15);
    due("3 tells them apart, 5 too", x.next(), 3);
    x.forget();
    x.sees(9, 6);
    due("15, 33", x.unseen(0), 2);
    due("4 tells them apart", x.next(), 4);
    x.forget();
    x.sees(9, 5);
    due("5, 257", x.unseen(0), 2);
    due("5 tells them apart", x.next(), 5);
    x.forget();
    x.sees(3, 1);
    x.sees(5, 1);
    due("31, 511", x.unseen(0), 2);
    due("7 tells them apart", x.next(), 7);
  }

  static void allCanBe() {
    ShiftAdds x = new ShiftAdds();
    due("9 leaves three the same, 5 four, 7 five", x.next(), 9);
    x.sees(2, 1);
    due("all are odd", x.unseen(0), 16);
    due("9 as before", x.next(), 9);
  }

  static void oneOfOddsCanNotBe() {
    ShiftAdds x = threes(1);
    x.limits(1);
    due("without 3", x.unseen(0), 15);
    due("5", x.unseen(1), 5);
    x.sees(8, 3);
    due("3 alone left that", x.unseen(0), 0);
    due("none", x.unseen(1), NONE);
    x.takes();
    due("3 is NEAR again", x.unseen(1), 3);
  }

  static void the1023CanBe() {
    ShiftAdds x = told("a0 5 0 1;");
    x.sees(9, 6);
    x.sees(8, 7);
    x.sees(7, 1);
    due("15, 1023", x.unseen(0), 2);
    due("15", x.unseen(1), 15);
    due("5 tells them apart", x.next(), 5);
    x.sees(5, 3);
    due("1023 alone", x.unseen(0), 1);
    due("1023 alone", x.unseen(1), 1023);
  }

  static void seenStaysTillForgottenOrReadAnew() {
    ShiftAdds x = new ShiftAdds();
    x.keep(0);
    x.sees(3, 1);
    x.adds(0, 1, 0, 0);
    due("behind adds()", x.count(5), 1);
    x.takes();
    due("behind takes()", x.count(5), 1);
    x.wishes(5);
    due("behind wishes()", x.count(5), 1);
    x.limits(1);
    due("behind limits()", x.count(5), 1);
    x.undo();
    due("behind undo()", x.count(5), 1);
    x.back(0);
    due("behind back()", x.count(5), 1);
    due("UNSEEN", x.unseen(0), 4);
    x.type('#');
    x.graph();
    due("behind a FAULT", x.count(5), 1);
    due("UNSEEN", x.unseen(0), 4);
    x.clear();
    x.graph();
    due("read anew", x.count(5), 0);
    due("UNSEEN", x.unseen(0), 16);
  }

  public static void main(String[] args) {
    runAll(BoundsOfSeenTest.class);
  }
}
