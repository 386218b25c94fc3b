/** An object is used for 512 calls: all of them answer as due, the last as the first. */
public final class CallsTest extends Tests {
  private static final int CALLS = 512;

  static void lettersTill512() {
    ShiftAdds x = new ShiftAdds();
    for (int call = 1; call <= CALLS; call++) due("type()", x.type(32), call <= 80 ? call : FULL);
  }

  static void lettersAndClearTill512() {
    ShiftAdds x = new ShiftAdds();
    for (int call = 1; call <= CALLS; call++) {
      if (call % 82 == 0) due("clear()", x.clear(), 80);
      else due("type()", x.type('w'), call % 82 == 81 ? FULL : call % 82);
    }
  }

  static void textsTill512() {
    ShiftAdds x = new ShiftAdds();
    String[] texts = {"w5;", "l3;", "a0 1 0 0;", "#"};
    int calls = 0;
    for (int round = 0; calls + 12 <= CALLS; round++) {
      String text = texts[round % 4];
      type(x, text);
      due("graph() of " + text, x.graph(), round % 4 == 3 ? -10 : 1);
      due("clear()", x.clear(), round % 4 == 3 ? 1 : 0);
      calls += text.length() + 2;
    }
  }

  static void addersAddedTill512() {
    ShiftAdds x = new ShiftAdds();
    for (int call = 1; call <= CALLS; call++) due("adds()", x.adds(0, 1, 0, 0), call <= 12 ? 3 : FULL);
  }

  static void addersAddedAndTakenTill512() {
    ShiftAdds x = threes(11);
    for (int call = 12; call < CALLS; call += 2) {
      int s = call / 2 % 9 + 1;
      due("adds()", x.adds(11, s, 0, 3), Math.abs(3 - (1 << s)));
      due("takes()", x.takes(), Math.abs(3 - (1 << s)));
    }
  }

  static void constantsTill512() {
    ShiftAdds x = new ShiftAdds();
    for (int call = 0; call < CALLS; call++) {
      int there = Math.min(call % 12, 12 - call % 12);
      due("wishes()", x.wishes(call % 6 + 1), call % 12 < 6 ? there + 1 : there - 1);
    }
  }

  static void limitsTill512() {
    ShiftAdds x = new ShiftAdds();
    int was = 6;
    for (int call = 0; call < CALLS; call++) {
      due("limits()", x.limits(call % 9 + 1), was);
      was = call % 9 + 1;
    }
  }

  static void undoneTill512() {
    ShiftAdds x = new ShiftAdds();
    int known = 0;
    for (int call = 0; call < CALLS; call++) {
      if (call % 23 < 12) {
        x.limits(call % 9 + 1);
        known = Math.min(known + 1, 10);
      } else {
        due("undo()", x.undo(), known == 0 ? STATE : known - 1);
        known = Math.max(known - 1, 0);
      }
    }
  }

  static void imagesTill512() {
    ShiftAdds x = new ShiftAdds();
    int[] kept = {-1, -1};
    int adders = 0;
    for (int call = 1; call <= CALLS; call++) {
      int image = call / 4 % 2;
      if (call % 4 == 0) {
        due("adds()", x.adds(0, 1, 0, 0), adders < 12 ? 3 : FULL);
        adders = Math.min(adders + 1, 12);
      } else if (call % 4 == 1) {
        due("keep()", x.keep(image), adders);
        kept[image] = adders;
      } else {
        int from = call % 4 == 2 ? image : 1 - image;
        due("back()", x.back(from), kept[from] < 0 ? STATE : kept[from]);
        adders = kept[from] < 0 ? adders : kept[from];
      }
    }
  }

  static void seenTill512() {
    ShiftAdds x = new ShiftAdds();
    for (int call = 1; call <= CALLS; call++) {
      if (call % 8 == 0) due("forget()", x.forget(), 6);
      else due("sees()", x.sees(call % 8 + 2, 1), call % 8 == 7 ? FULL : call % 8);
    }
  }

  /** The dearest looks, behind a change each time, so that nothing is remembered from the call ahead. */
  static void looksTill512() {
    ShiftAdds x = told("l9;w877;w445;w584;w662;w485;w599;a0 1 0 0;");
    int calls = 43;
    while (calls + 9 <= CALLS) {
      due("11 more", x.plan(-2), 11);
      due("one is not MET", x.plan(-1), 1);
      x.limits(8);
      due("least(43)", x.least(43), 3);
      due("two(43)", x.two(43), 5);
      due("near(9, 1)", x.near(9, 1), 11);
      due("by(11, 2)", x.by(11, 2), 2);
      due("unseen(1)", x.unseen(1), 5);
      x.limits(9);
      calls += 9;
    }
  }

  static void oneObjectDoesNotChangeAnother() {
    ShiftAdds x = threes(2), y = new ShiftAdds();
    x.wishes(5);
    x.limits(3);
    x.sees(3, 1);
    x.keep(0);
    x.type('w');
    counts("the other", y, 0, 0, 6, 0, 0, 0, 0, 0);
    due("back(0)", y.back(0), STATE);
    due("undo()", y.undo(), STATE);
    due("near(9, 1)", y.near(9, 1), 15);
    y.adds(0, 2, 0, 0);
    y.wishes(9);
    counts("the one", x, 2, 1, 3, 1, 1, 1, 1, 4);
    due("odd(1, 0)", x.odd(1, 0), 3);
    due("near(9, 1)", x.near(9, 1), 11);
  }

  public static void main(String[] args) {
    runAll(CallsTest.class);
  }
}
