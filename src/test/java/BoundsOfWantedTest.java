/** The bounds of WANTED, of MET and of WISHED: parts 1 and 2 of the terms, promises 6 and 9. */
public final class BoundsOfWantedTest extends Tests {

  private static ShiftAdds six() {
    return told("w1023;w3;w6;w1;w512;w100;");
  }

  static void aConstantIsOneTo1023() {
    ShiftAdds x = new ShiftAdds();
    int[] bad = {0, -1, 1024, 1025, MIN, MAX};
    for (int c : bad) due("wishes(" + c + ")", x.wishes(c), BAD);
    wanted("none yet", x);
    due("wishes(1)", x.wishes(1), 1);
    due("wishes(1023)", x.wishes(1023), 2);
    due("wishes(2)", x.wishes(2), 3);
    due("wishes(1022)", x.wishes(1022), 4);
    wanted("all four", x, 1, 1023, 2, 1022);
    for (int c : bad) due("wishes(" + c + ")", x.wishes(c), BAD);
    wanted("still", x, 1, 1023, 2, 1022);
    due("four are known", x.count(7), 4);
  }

  static void sixAreWantedASeventhIsNot() {
    ShiftAdds x = told("w1023;w3;w6;w1;w512;");
    due("the sixth", x.wishes(100), 6);
    due("a seventh", x.wishes(7), FULL);
    due("a seventh", x.wishes(1022), FULL);
    wanted("six", x, 1023, 3, 6, 1, 512, 100);
    due("one is known", x.count(7), 1);
  }

  static void badIsAheadOfFull() {
    ShiftAdds x = six();
    int[] bad = {0, -1, 1024, MIN, MAX};
    for (int c : bad) due("wishes(" + c + ")", x.wishes(c), BAD);
  }

  static void oneWantedIsNotWantedAnyMore() {
    ShiftAdds x = new ShiftAdds();
    due("wishes(5)", x.wishes(5), 1);
    due("wishes(5)", x.wishes(5), 0);
    wanted("none", x);
    due("wishes(5)", x.wishes(5), 1);
    wanted("once", x, 5);
  }

  static void oneOfSixIsNotWantedAnyMoreWhichIsNotFull() {
    int[] all = {1023, 3, 6, 1, 512, 100};
    for (int gone = 0; gone < 6; gone++) {
      ShiftAdds x = six();
      due("wishes(" + all[gone] + ")", x.wishes(all[gone]), 5);
      int[] left = new int[5];
      for (int k = 0; k < 5; k++) left[k] = all[k < gone ? k : k + 1];
      wanted("the others, as told", x, left);
      due("another has room", x.wishes(9), 6);
      due("it is the last", x.wanted(5, 0), 9);
      due("a seventh", x.wishes(all[gone]), FULL);
      x.undo();
      x.undo();
      wanted("undone, where it was", x, all);
    }
  }

  static void wantedAnswersForThoseThatAreThere() {
    ShiftAdds x = new ShiftAdds();
    for (int n = 0; n <= 6; n++) {
      for (int what = 0; what < 2; what++) {
        due("wanted(-1, " + what + ")", x.wanted(-1, what), BAD);
        due("behind the last", x.wanted(n, what), BAD);
        due("far behind", x.wanted(MAX, what), BAD);
        due("far ahead", x.wanted(MIN, what), BAD);
      }
      if (n > 0) {
        due("the first", x.wanted(0, 0), 700);
        due("the last", x.wanted(n - 1, 0), 700 + n - 1);
        due("the last is not MET", x.wanted(n - 1, 1), 0);
      }
      if (n < 6) due("another", x.wishes(700 + n), n + 1);
    }
  }

  static void wantedTellsTwoThings() {
    ShiftAdds x = six();
    int[] bad = {-1, 2, MIN, MAX};
    for (int what : bad) {
      due("wanted(0, " + what + ")", x.wanted(0, what), BAD);
      due("wanted(5, " + what + ")", x.wanted(5, what), BAD);
    }
    due("the constant", x.wanted(0, 0), 1023);
    due("not MET", x.wanted(0, 1), 0);
    due("1 is MET", x.wanted(3, 1), 1);
  }

  static void oneMeetsEveryPowerOfTwo() {
    for (int power = 1; power <= 512; power *= 2) {
      ShiftAdds x = new ShiftAdds();
      x.wishes(power);
      due(power + " is MET by ONE", x.wanted(0, 1), 1);
      due("none is not MET", x.count(3), 0);
    }
  }

  static void theOddPartIsMetAndNothingElse() {
    ShiftAdds x = told("w3;w6;w768;w9;w5;w1023;a0 1 0 0;");
    int[] met = {1, 1, 1, 0, 0, 0};
    for (int k = 0; k < 6; k++) due("wanted(" + k + ", 1)", x.wanted(k, 1), met[k]);
    due("not MET", x.count(3), 3);
    x.takes();
    due("3 is gone, none is MET", x.count(3), 6);
    for (int k = 0; k < 6; k++) due("wanted(" + k + ", 1)", x.wanted(k, 1), 0);
    x.adds(0, 5, 0, 1);
    x.adds(1, 5, 1, 0);
    due("1023 is MET", x.wanted(5, 1), 1);
    due("the others are not", x.count(3), 5);
  }

  static void metByTheLastOfTwelve() {
    ShiftAdds x = threes(11);
    x.wishes(5);
    due("not MET", x.wanted(0, 1), 0);
    x.adds(0, 2, 0, 0);
    due("MET", x.wanted(0, 1), 1);
    due("none is not MET", x.count(3), 0);
    x.takes();
    due("not MET any more", x.wanted(0, 1), 0);
  }

  static void noneAndSixAreCounted() {
    counts("none", new ShiftAdds(), 0, 0, 6, 0, 0, 0, 0, 0);
    counts("six", six(), 0, 6, 6, 4, 0, 0, 0, 0);
  }

  public static void main(String[] args) {
    runAll(BoundsOfWantedTest.class);
  }
}
