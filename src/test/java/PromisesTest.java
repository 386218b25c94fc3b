/** Promise by promise, with answers worked out from the document by hand. */
public final class PromisesTest extends Tests {
  private static final int[] FROM_ONE = {3, 5, 7, 9, 15, 17, 31, 33, 63, 65, 127, 129, 255, 257, 511, 513};

  static void promise1NewObject() {
    ShiftAdds x = new ShiftAdds();
    counts("new", x, 0, 0, 6, 0, 0, 0, 0, 0);
    odd("new", x, 0, 1, 0, NONE, NONE, NONE, NONE, 0);
    due("new: odd(1, 0)", x.odd(1, 0), BAD);
    due("new: back(0)", x.back(0), STATE);
    due("new: back(1)", x.back(1), STATE);
    due("new: clear()", x.clear(), 0);
    due("new: forget()", x.forget(), 0);
    due("new: plan(-2)", x.plan(-2), 0);
    due("new: unseen(0)", x.unseen(0), 16);
  }

  static void promise2Type() {
    ShiftAdds x = new ShiftAdds();
    int[] bad = {-1, 256, MIN, MAX};
    for (int letter : bad) due("type(" + letter + ")", x.type(letter), BAD);
    due("type(0)", x.type(0), 1);
    due("type(255)", x.type(255), 2);
    for (int n = 3; n <= 80; n++) due("type", x.type(32), n);
    due("the 81st letter", x.type(32), FULL);
    for (int letter : bad) due("BAD is ahead of FULL", x.type(letter), BAD);
    due("letters", x.count(6), 80);
  }

  static void promise3Clear() {
    ShiftAdds x = new ShiftAdds();
    due("clear()", x.clear(), 0);
    type(x, "w5;");
    due("clear()", x.clear(), 3);
    due("clear()", x.clear(), 0);
    due("graph() of an empty text", x.graph(), 0);
    due("nothing was told", x.count(1), 0);
  }

  private static void fault(String text, int place) {
    ShiftAdds x = told("l7;w3;w9;a0 1 0 0;");
    x.wishes(12);
    x.keep(1);
    x.sees(3, 1);
    type(x, text);
    due("graph() of '" + text + "'", x.graph(), -10 - place);
    counts("behind the fault in '" + text + "'", x, 1, 3, 7, 1, 1, 1, text.length(), 1);
    due("the image is still there", x.back(1), 1);
  }

  static void promise4GraphFaults() {
    fault(";", 0);
    fault("5;", 0);
    fault("W5;", 0);
    fault("w", 1);
    fault("w  ", 3);
    fault("w5", 2);
    fault("w 5 x", 4);
    fault("w 5 ", 4);
    fault("w;", 1);
    fault("w05;", 1);
    fault("w00;", 1);
    fault("w 0;", 2);
    fault("w1024;", 1);
    fault("w9999;", 1);
    fault("w10000;", 1);
    fault("w 99999999999999999999999999;", 2);
    fault("w4294967301;", 1);
    fault("w5 5;", 3);
    fault("w5;;", 3);
    fault("w5;w6;w5;", 7);
    fault("ww5;", 1);
    fault("w\t5;", 1);
    fault("w-5;", 1);
    fault("w1;w2;w3;w4;w5;w6;w7;", 18);
    fault("l", 1);
    fault("l0;", 1);
    fault("l10;", 1);
    fault("l3;l4;", 3);
    fault("w5;l3;", 3);
    fault("a0 0 0 0;l3;", 9);
    fault("a1 0 0 0;", 1);
    fault("a0 10 0 0;", 3);
    fault("a0 0 1 0;", 5);
    fault("a0 0 0 4;", 7);
    fault("a0 0 0 00;", 7);
    fault("a0 0 0 1;", 7);
    fault("a0 0 0 3;", 7);
    fault("a0 0 0;", 6);
    fault("a0 0 0 0 0;", 9);
    fault("a0 0 0 0", 8);
    fault("a0000;", 1);
    fault("a0 9 0 0;a1 0 1 0;", 16);
    fault("l1;a0 1 0 0;a1 0 0 0;", 19);
    fault("l1;a0 1 0 0;w5;a1 0 0 0", 22);
    fault("w 0 # 00", 2);
    fault("x w", 0);
    fault("w5;" + (char) 0, 3);
    fault("w5;" + (char) 255, 3);
    fault("w5;" + (char) 160, 3);
  }

  static void promise4GraphTold() {
    ShiftAdds x = new ShiftAdds();
    type(x, "l 9 ;w1;w1023 ; a 0 1 0 0;a1 2 0 1;  w 44;  ");
    due("graph()", x.graph(), 6);
    counts("told", x, 2, 3, 9, 1, 2, 0, 0, 0);
    odd("told", x, 1, 3, 1, 0, 0, 1, 0, 0);
    odd("told", x, 2, 11, 2, 1, 0, 2, 1, 0);
    wanted("told", x, 1, 1023, 44);
    x.keep(0);
    x.sees(5, 2);
    x.wishes(7);
    type(x, "w 8;");
    due("graph()", x.graph(), 1);
    counts("told anew", x, 0, 1, 6, 0, 0, 0, 0, 0);
    due("undo() behind graph()", x.undo(), STATE);
    due("back(0) behind graph()", x.back(0), STATE);
    x.keep(1);
    type(x, "    ");
    due("graph() of blanks", x.graph(), 0);
    counts("nothing told", x, 0, 0, 6, 0, 0, 0, 0, 0);
    due("back(1) behind graph()", x.back(1), STATE);
    type(x, "a0 0 0 0;a0 0 0 0;a0 0 0 0;a0 0 0 0;a0 0 0 0;a0 0 0 0;a0 0 0 0;a0 0 0 0;w1023;w7");
    due("80 letters", x.count(6), 80);
    due("the end is missing", x.graph(), -10 - 80);
    x.clear();
    type(x, "w1;w2;w3;w4;w5;w6;a0 0 0 0;a1 0 1 0;a2 0 2 0;a3 0 3 0;a4 0 4 0;a5 0 5 0;");
    due("six and six", x.graph(), 12);
    due("six deep", x.count(4), 6);
    type(x, "l9;a0 0 0 0;a1 0 1 0;a2 0 2 0;a3 0 3 0;a4 0 4 0;a5 0 5 0;a6 0 6 0;");
    due("seven deep with l", x.graph(), 8);
    due("seven deep", x.count(4), 7);
  }

  static void promise5Odd() {
    ShiftAdds x = told("a0 0 0 0;a1 9 0 3;a2 0 0 0;a2 0 0 3;");
    odd("halved once", x, 1, 1, 1, 0, 0, 0, 0, 1);
    odd("taken from less", x, 2, 511, 2, 1, 0, 9, 3, 0);
    odd("512 halved nine times", x, 3, 1, 3, 2, 0, 0, 0, 9);
    odd("510", x, 4, 255, 3, 2, 0, 0, 3, 1);
    int[] badK = {-1, 5, MIN, MAX};
    for (int k : badK) due("odd(" + k + ", 0)", x.odd(k, 0), BAD);
    int[] badWhat = {-1, 7, MIN, MAX};
    for (int what : badWhat) due("odd(0, " + what + ")", x.odd(0, what), BAD);
  }

  static void promise6Wanted() {
    ShiftAdds x = told("w12;w1;w64;w7;w1022;a0 1 0 0;a0 9 0 1;");
    int[] met = {1, 1, 1, 0, 1};
    for (int k = 0; k < 5; k++) due("wanted(" + k + ", 1)", x.wanted(k, 1), met[k]);
    wanted("as told", x, 12, 1, 64, 7, 1022);
    x.takes();
    due("not MET any more", x.wanted(4, 1), 0);
    int[] bad = {-1, 5, 6, MIN, MAX};
    for (int k : bad) due("wanted(" + k + ", 1)", x.wanted(k, 1), BAD);
    int[] badWhat = {-1, 2, MIN, MAX};
    for (int what : badWhat) due("wanted(0, " + what + ")", x.wanted(0, what), BAD);
  }

  static void promise7Adds() {
    ShiftAdds x = new ShiftAdds();
    due("8 and 1", x.adds(0, 3, 0, 0), 9);
    due("4 times 9 less 1", x.adds(1, 2, 0, 1), 35);
    due("9, and 2 times 35", x.adds(1, 1, 2, 2), 79);
    due("9 less 2 times 35", x.adds(1, 1, 2, 3), 61);
    due("9 less 8", x.adds(1, 3, 0, 3), 1);
    due("35 and 9, halved", x.adds(2, 0, 1, 0), 11);
    odd("its halves", x, 6, 11, 3, 2, 1, 0, 0, 2);
    int[] bad = {-1, 7, 12, MIN, MAX};
    for (int k : bad) {
      due("adds(" + k + ", 0, 0, 0)", x.adds(k, 0, 0, 0), BAD);
      due("adds(0, 0, " + k + ", 0)", x.adds(0, 0, k, 0), BAD);
    }
    int[] badShift = {-1, 10, MIN, MAX};
    for (int s : badShift) due("adds(0, " + s + ", 0, 0)", x.adds(0, s, 0, 0), BAD);
    int[] badForm = {-1, 4, MIN, MAX};
    for (int f : badForm) due("adds(0, 0, 0, " + f + ")", x.adds(0, 0, 0, f), BAD);
    due("nothing comes", x.adds(3, 0, 3, 1), STATE);
    due("nothing comes", x.adds(3, 0, 3, 3), STATE);
    due("too much comes", x.adds(3, 4, 0, 0), STATE);
    due("refused ones are not known", x.count(7), 6);
    due("nor added", x.count(0), 6);
  }

  static void promise7AddsEdges() {
    ShiftAdds x = told("a0 5 0 1;a1 5 1 0;a0 9 0 0;a0 9 0 1;");
    due("1023 may be", x.odd(2, 0), 1023);
    due("1024 may not, though it could be halved", x.adds(2, 0, 0, 0), STATE);
    due("1026 may not", x.adds(3, 0, 3, 0), STATE);
    due("1022 may be", x.adds(2, 0, 0, 1), 511);
    due("it lies three deep", x.limits(2), STATE);
    x.takes();
    due("two deep", x.limits(2), 6);
    due("too deep", x.adds(2, 0, 0, 3), STATE);
    due("not too deep", x.adds(3, 0, 4, 3), 1);
    x.limits(9);
    while (x.count(0) < 12) due("filled up", x.adds(0, 1, 0, 0), 3);
    due("a thirteenth", x.adds(0, 1, 0, 0), FULL);
    due("STATE is ahead of FULL", x.adds(0, 0, 0, 1), STATE);
    due("BAD is ahead of FULL", x.adds(13, 0, 0, 0), BAD);
    due("the twelfth counts", x.adds(12, 0, 12, 3), STATE);
    due("what is NEAR does not ask whether there is room", x.near(3, 1), 5);
    due("TWO neither", x.two(11), NONE);
    due("which is NEAR", x.by(11, 0), 0);
  }

  static void promise8Takes() {
    ShiftAdds x = told("w3;a0 1 0 0;a1 2 0 1;");
    due("takes()", x.takes(), 11);
    due("takes()", x.takes(), 3);
    due("takes() of none", x.takes(), STATE);
    counts("all taken", x, 0, 1, 6, 1, 0, 0, 0, 2);
    due("odd(1, 0)", x.odd(1, 0), BAD);
    due("product(1, 1)", x.product(1, 1), 0);
  }

  static void promise9Wishes() {
    ShiftAdds x = new ShiftAdds();
    int[] bad = {0, -1, 1024, MIN, MAX};
    for (int c : bad) due("wishes(" + c + ")", x.wishes(c), BAD);
    int[] good = {1, 1023, 6, 3, 12, 100};
    for (int k = 0; k < 6; k++) due("wishes(" + good[k] + ")", x.wishes(good[k]), k + 1);
    due("a seventh", x.wishes(5), FULL);
    for (int c : bad) due("BAD is ahead of FULL", x.wishes(c), BAD);
    due("one that is WANTED, though all are there", x.wishes(6), 5);
    wanted("6 is gone", x, 1, 1023, 3, 12, 100);
    due("another", x.wishes(5), 6);
    wanted("5 is the last", x, 1, 1023, 3, 12, 100, 5);
    due("the first", x.wishes(1), 5);
    due("the last", x.wishes(5), 4);
    wanted("both gone", x, 1023, 3, 12, 100);
    due("known", x.count(7), 10);
  }

  static void promise10Limits() {
    ShiftAdds x = told("l3;a0 1 0 0;a1 1 0 0;");
    int[] bad = {0, -1, 10, MIN, MAX};
    for (int c : bad) due("limits(" + c + ")", x.limits(c), BAD);
    due("limits(1)", x.limits(1), STATE);
    due("limits(2)", x.limits(2), 3);
    due("the same once more", x.limits(2), 2);
    due("limits(9)", x.limits(9), 2);
    due("THE LIMIT", x.count(2), 9);
    due("three are known", x.count(7), 3);
    x.takes();
    due("limits(1)", x.limits(1), 9);
  }

  static void promise11Undo() {
    ShiftAdds x = told("w3;w5;w7;a0 1 0 0;");
    due("undo() of nothing", x.undo(), STATE);
    x.wishes(3);
    x.adds(0, 2, 0, 0);
    x.takes();
    x.takes();
    x.limits(1);
    x.wishes(9);
    x.adds(0, 0, 0, 1);
    x.limits(0);
    x.wishes(0);
    due("refused ones are not known", x.count(7), 6);
    due("undo() of a wish", x.undo(), 5);
    wanted("9 is gone again", x, 5, 7);
    due("undo() of a limit", x.undo(), 4);
    due("THE LIMIT", x.count(2), 6);
    due("undo() of takes()", x.undo(), 3);
    odd("back again", x, 1, 3, 1, 0, 0, 1, 0, 0);
    due("undo() of takes()", x.undo(), 2);
    odd("back again", x, 2, 5, 1, 0, 0, 2, 0, 0);
    due("undo() of adds()", x.undo(), 1);
    due("one ADDER", x.count(0), 1);
    due("undo() of a wish taken back", x.undo(), 0);
    wanted("3 is where it was", x, 3, 5, 7);
    due("undo() of nothing", x.undo(), STATE);
  }

  static void promise11UndoOnlyTen() {
    ShiftAdds x = new ShiftAdds();
    for (int i = 0; i < 13; i++) x.limits(1 + i % 9);
    due("known", x.count(7), 10);
    for (int i = 9; i >= 6; i--) due("undo()", x.undo(), i);
    due("the limit nine changes on", x.count(2), 9);
    x.limits(5);
    due("known again", x.count(7), 7);
    for (int i = 6; i >= 0; i--) due("undo()", x.undo(), i);
    due("the limit three changes on", x.count(2), 3);
    due("older ones are lost", x.undo(), STATE);
    x.sees(2, 1);
    x.keep(0);
    x.limits(4);
    x.undo();
    due("SEEN is not UNDONE", x.count(5), 1);
    due("IMAGES neither", x.back(0), 0);
  }

  static void promise12And13Digits() {
    for (int v = 1; v <= 1023; v++) {
      ShiftAdds x = new ShiftAdds();
      int sum = 0, notZero = 0, before = 0;
      for (int k = 0; k < 12; k++) {
        int d = x.digit(v, k) - 1;
        that("digit " + k + " of " + v, d >= -1 && d <= 1 && (d == 0 || before == 0));
        sum += d << k;
        notZero += Math.abs(d);
        before = d;
      }
      due("the sum of the digits of " + v, sum, v);
      due("digits(" + v + ")", x.digits(v), notZero);
    }
    ShiftAdds x = new ShiftAdds();
    int[] bad = {0, -1, 1024, MIN, MAX};
    for (int v : bad) {
      due("digits(" + v + ")", x.digits(v), BAD);
      due("digit(" + v + ", 0)", x.digit(v, 0), BAD);
    }
    int[] badK = {-1, 12, MIN, MAX};
    for (int k : badK) due("digit(1, " + k + ")", x.digit(1, k), BAD);
  }

  static void promise14Near() {
    for (int v = 0; v <= 1024; v++) {
      ShiftAdds x = new ShiftAdds();
      int more = 0, least = NONE;
      for (int i = 15; i >= 0; i--) {
        if (FROM_ONE[i] > v) {
          more++;
          least = FROM_ONE[i];
        }
      }
      due("near(" + v + ", 0)", x.near(v, 0), more);
      due("near(" + v + ", 1)", x.near(v, 1), least);
    }
    ShiftAdds x = new ShiftAdds();
    due("near(MAX, 0)", x.near(MAX, 0), 0);
    due("near(MAX, 1)", x.near(MAX, 1), NONE);
    due("near(-1, 0)", x.near(-1, 0), BAD);
    due("near(MIN, 1)", x.near(MIN, 1), BAD);
    int[] badWhat = {-1, 2, MIN, MAX};
    for (int what : badWhat) due("near(0, " + what + ")", x.near(0, what), BAD);
    x.limits(1);
    x.adds(0, 1, 0, 0);
    due("none of 3 for the limit, and 3 is there", x.near(0, 0), 15);
    due("the least", x.near(0, 1), 5);
    x.limits(2);
    that("some of 3 then", x.near(0, 0) > 15);
    due("the least above 9", x.near(9, 1), 11);
    x.undo();
    due("as before", x.near(9, 1), 15);
    x.undo();
    due("3 again", x.near(0, 1), 3);
  }

  static void promise15By() {
    ShiftAdds x = new ShiftAdds();
    by(x, 3, 0, 0, 1, 0);
    by(x, 7, 0, 0, 3, 1);
    by(x, 1, NONE, NONE, NONE, NONE);
    by(x, 11, NONE, NONE, NONE, NONE);
    by(x, 1023, NONE, NONE, NONE, NONE);
    int[] bad = {0, -1, 2, 1022, 1024, 1025, MIN, MAX};
    for (int v : bad) due("by(" + v + ", 0)", x.by(v, 0), BAD);
    int[] badWhat = {-1, 4, MIN, MAX};
    for (int what : badWhat) due("by(3, " + what + ")", x.by(3, what), BAD);
    x.adds(0, 1, 0, 0);
    x.adds(0, 2, 0, 0);
    by(x, 11, 0, 1, 2, 3);
    by(x, 13, 0, 1, 2, 2);
    by(x, 9, 0, 0, 3, 0);
    by(x, 21, 0, 2, 2, 2);
    by(x, 43, 1, 2, 3, 2);
    by(x, 27, 0, 2, 5, 1);
    by(x, 45, 1, 1, 4, 1);
    by(x, 25, 0, 1, 3, 2);
    by(x, 3, NONE, NONE, NONE, NONE);
    x.limits(1);
    by(x, 11, NONE, NONE, NONE, NONE);
    by(x, 9, 0, 0, 3, 0);
  }

  static void promise16Two() {
    ShiftAdds x = new ShiftAdds();
    due("two(11)", x.two(11), 3);
    due("two(21), 8 times 3 less 3", x.two(21), 3);
    due("two(27), 9 times 3", x.two(27), 3);
    due("two(11), 8 and 3, not 7 and 4, 9 and 2", x.two(11), 3);
    due("two(1)", x.two(1), NONE);
    due("two(3)", x.two(3), NONE);
    due("two(43)", x.two(43), NONE);
    due("two(683)", x.two(683), NONE);
    due("two(1023), 33 times 31", x.two(1023), 31);
    int[] bad = {0, -1, 2, 1022, 1024, 1025, MIN, MAX};
    for (int v : bad) due("two(" + v + ")", x.two(v), BAD);
    x.limits(2);
    due("deep enough", x.two(11), 3);
    x.limits(1);
    due("too deep", x.two(11), NONE);
    x.limits(9);
    x.adds(0, 1, 0, 0);
    due("NEAR now", x.two(11), NONE);
    due("43 is 32 and 11", x.two(43), 5);
  }

  static void promise17Least() {
    ShiftAdds x = new ShiftAdds();
    Reference ref = new Reference();
    for (int v = 1; v <= 255; v++) due("least(" + v + ")", x.least(v), ref.least(v));
    due("least(128)", x.least(128), 0);
    due("least(192)", x.least(192), 1);
    due("least(90)", x.least(90), 2);
    due("least(86)", x.least(86), 3);
    int[] bad = {0, -1, 256, MIN, MAX};
    for (int v : bad) due("least(" + v + ")", x.least(v), BAD);
    x.adds(0, 1, 0, 0);
    x.limits(1);
    due("from ONE alone", x.least(3), 1);
    due("no limit of depth", x.least(43), 3);
    due("nothing is changed", x.count(0), 1);
  }

  static void promise18Plan() {
    ShiftAdds x = told("w44;w11;w6;w1;");
    plan(x, 0, 3, 11);
    due("nothing is changed", x.count(0), 0);
    due("nothing is changed", x.count(3), 3);
    due("plan(-3)", x.plan(-3), BAD);
    due("plan(MIN)", x.plan(MIN), BAD);
    x.wishes(6);
    plan(x, 0, 3, 11);
    x.limits(1);
    plan(x, 2);
    x.wishes(9);
    plan(x, 2, 9);
    x.undo();
    x.undo();
    x.adds(0, 1, 0, 0);
    plan(x, 0, 11);
    x.wishes(683);
    plan(x, 0, 11, 21, 683);
    while (x.count(0) < 12) x.adds(0, 1, 0, 0);
    plan(x, 3);
    x.takes();
    plan(x, 1, 11);
    plan(told("w21;w11;"), 0, 3, 11, 21);
    plan(told("w1023;"), 0, 31, 1023);
  }

  static void promise19Product() {
    ShiftAdds x = told("l9;a0 1 0 0;a0 0 1 3;a1 3 0 1;a3 0 0 3;");
    int[] values = {1, 3, 1, 23, 11};
    for (int k = 0; k < 5; k++) {
      due("odd(" + k + ", 0)", x.odd(k, 0), values[k]);
      due("product(" + k + ", 7)", x.product(k, 7), 7L * values[k]);
      due("product(" + k + ", 0)", x.product(k, 0), 0);
      due("product(" + k + ", 99999)", x.product(k, 99999), 99999L * values[k]);
      due("product(" + k + ", -99999)", x.product(k, -99999), -99999L * values[k]);
    }
    int[] bad = {-1, 5, MIN, MAX};
    for (int k : bad) due("product(" + k + ", 7)", x.product(k, 7), 0);
    int[] badX = {-100000, 100000, MIN, MAX};
    for (int v : badX) due("product(1, " + v + ")", x.product(1, v), 0);
  }

  static void promise20To23Seen() {
    ShiftAdds x = new ShiftAdds();
    int[] badM = {1, 0, -1, 10, MIN, MAX};
    for (int m : badM) due("sees(" + m + ", 0)", x.sees(m, 0), BAD);
    int[] badR = {-1, 5, MIN, MAX};
    for (int r : badR) due("sees(5, " + r + ")", x.sees(5, r), BAD);
    due("all are as yet", x.unseen(0), 16);
    due("the least", x.unseen(1), 3);
    due("9 leaves 3 the same at most", x.next(), 9);
    due("sees(3, 1)", x.sees(3, 1), 1);
    due("7, 31, 127, 511", x.unseen(0), 4);
    due("the least", x.unseen(1), 7);
    due("5 leaves 7, 127 the same, and 31, 511; 7 leaves 7, 511; 9 leaves 7, 511", x.next(), 5);
    due("sees(5, 1)", x.sees(5, 1), 2);
    due("31, 511", x.unseen(0), 2);
    due("the least", x.unseen(1), 31);
    due("7 leaves 3, 0", x.next(), 7);
    due("sees(9, 7)", x.sees(9, 7), 3);
    due("511", x.unseen(0), 1);
    due("511", x.unseen(1), 511);
    due("nothing to ask", x.next(), NONE);
    due("sees(2, 0)", x.sees(2, 0), 4);
    due("none", x.unseen(0), 0);
    due("none", x.unseen(1), NONE);
    due("nothing to ask", x.next(), NONE);
    due("sees(2, 1)", x.sees(2, 1), 5);
    due("sees(9, 8)", x.sees(9, 8), 6);
    due("a seventh", x.sees(9, 8), FULL);
    due("BAD is ahead of FULL", x.sees(9, 9), BAD);
    due("SEEN", x.count(5), 6);
    int[] badWhat = {-1, 2, MIN, MAX};
    for (int what : badWhat) due("unseen(" + what + ")", x.unseen(what), BAD);
    due("forget()", x.forget(), 6);
    due("forget()", x.forget(), 0);
    due("all again", x.unseen(0), 16);
    x.adds(0, 1, 0, 0);
    x.limits(1);
    due("3 is no more NEAR", x.unseen(1), 5);
    due("SEEN is not UNDONE", x.count(7), 2);
    x = told("a0 5 0 1;");
    due("1023 is NEAR", x.near(1022, 1), 1023);
    due("1023 is NEAR", x.near(1022, 0), 1);
    by(x, 1023, 1, 1, 5, 0);
    x.sees(9, 6);
    x.sees(8, 7);
    x.sees(7, 1);
    x.sees(5, 3);
    due("1023 alone", x.unseen(0), 1);
    due("1023 alone", x.unseen(1), 1023);
  }

  static void promise24And25Images() {
    ShiftAdds x = told("l4;w7;w9;a0 1 0 0;");
    int[] bad = {-1, 2, MIN, MAX};
    for (int image : bad) {
      due("keep(" + image + ")", x.keep(image), BAD);
      due("back(" + image + ")", x.back(image), BAD);
    }
    due("back(0) of none", x.back(0), STATE);
    due("keep(0)", x.keep(0), 1);
    due("back(1) of none", x.back(1), STATE);
    x.adds(1, 1, 0, 0);
    x.limits(9);
    x.wishes(7);
    x.sees(3, 2);
    x.type(119);
    due("keep(1)", x.keep(1), 2);
    due("keep changes nothing", x.count(7), 3);
    due("back(0)", x.back(0), 1);
    counts("as image 0 has it", x, 1, 2, 4, 2, 1, 1, 1, 0);
    wanted("as image 0 has it", x, 7, 9);
    due("nothing can be UNDONE", x.undo(), STATE);
    x.takes();
    due("an image does not change with it", x.back(0), 1);
    due("near is as it was", x.near(0, 1), 5);
    due("back(1)", x.back(1), 2);
    counts("as image 1 has it", x, 2, 1, 9, 1, 2, 1, 1, 0);
    odd("as image 1 has it", x, 2, 7, 2, 1, 0, 1, 0, 0);
    due("image 0 is still there", x.back(0), 1);
    x.takes();
    due("kept anew", x.keep(0), 0);
    x.back(1);
    due("the newer one", x.back(0), 0);
  }

  static void promise26Count() {
    ShiftAdds x = told("l8;w2;w3;w5;w10;a0 0 0 0;a1 1 0 0;");
    x.sees(2, 1);
    x.sees(2, 1);
    x.type(0);
    x.takes();
    x.adds(1, 2, 0, 1);
    x.adds(2, 2, 0, 1);
    counts("count", x, 3, 4, 8, 2, 3, 2, 1, 3);
    int[] bad = {-1, 8, MIN, MAX};
    for (int what : bad) due("count(" + what + ")", x.count(what), BAD);
  }

  public static void main(String[] args) {
    runAll(PromisesTest.class);
  }
}
