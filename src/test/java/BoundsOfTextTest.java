/** The bounds of THE TEXT, of each NUMBER in it, and every place of a FAULT: part 1 of the terms, promises 2 to 4. */
public final class BoundsOfTextTest extends Tests {
  private static final String BLANK = " ";

  private static void reads(String text, int items) {
    ShiftAdds x = new ShiftAdds();
    type(x, text);
    due("graph() of '" + text + "'", x.graph(), items);
    due("the text is empty then", x.count(6), 0);
  }

  private static void fault(String text, int place) {
    ShiftAdds x = new ShiftAdds();
    type(x, text);
    due("graph() of '" + text + "'", x.graph(), -10 - place);
    due("the text is still there", x.count(6), text.length());
  }

  /** What is ahead can stand; the token can't, with a blank ahead of it and without, whatever is behind it. */
  private static void faultAt(String ahead, String token) {
    fault(ahead + token, ahead.length());
    fault(ahead + token + BLANK, ahead.length());
    fault(ahead + token + ";", ahead.length());
    fault(ahead + token + "#", ahead.length());
    fault(ahead + BLANK + BLANK + token + ";", ahead.length() + 2);
  }

  /** After a NUMBER, a NUMBER is another TOKEN only behind a blank. */
  private static void faultsAt(String ahead, String... tokens) {
    boolean behindNumber = Character.isDigit(ahead.isEmpty() ? ';' : ahead.charAt(ahead.length() - 1));
    for (String token : tokens) {
      faultAt(behindNumber && Character.isDigit(token.charAt(0)) ? ahead + BLANK : ahead, token);
    }
  }

  private static void endsTooEarly(String text) {
    fault(text, text.length());
    fault(text + BLANK, text.length() + 1);
    fault(text + BLANK + BLANK + BLANK, text.length() + 3);
  }

  // ---- letters

  static void aLetterIsZeroTo255() {
    ShiftAdds x = new ShiftAdds();
    int[] bad = {-1, 256, MIN, MAX};
    for (int letter : bad) due("type(" + letter + ")", x.type(letter), BAD);
    due("no letter yet", x.count(6), 0);
    due("type(0)", x.type(0), 1);
    due("type(255)", x.type(255), 2);
    due("type(1)", x.type(1), 3);
    due("type(254)", x.type(254), 4);
    for (int letter : bad) due("type(" + letter + ")", x.type(letter), BAD);
    due("four letters", x.count(6), 4);
  }

  static void everyLetterIsTakenButFewCanBeRead() {
    for (int letter = 0; letter <= 255; letter++) {
      ShiftAdds x = new ShiftAdds();
      due("type(" + letter + ")", x.type(letter), 1);
      boolean word = letter == 'l' || letter == 'w' || letter == 'a';
      due("graph() of letter " + letter, x.graph(), word ? -11 : letter == ' ' ? 0 : -10);
    }
  }

  static void eightyLettersAndNoMore() {
    ShiftAdds x = new ShiftAdds();
    for (int n = 1; n <= 80; n++) due("type(32)", x.type(32), n);
    due("the 81st", x.type(32), FULL);
    due("the 81st", x.type(0), FULL);
    due("the 81st", x.type(255), FULL);
    due("eighty", x.count(6), 80);
    int[] bad = {-1, 256, MIN, MAX};
    for (int letter : bad) due("BAD is ahead of FULL", x.type(letter), BAD);
    due("eighty", x.count(6), 80);
  }

  static void aRefusedLetterIsNotInTheText() {
    ShiftAdds x = new ShiftAdds();
    x.type(-1);
    type(x, "w");
    x.type(256);
    type(x, "5;");
    while (x.count(6) < 80) x.type(' ');
    due("the 81st", x.type('#'), FULL);
    due("graph()", x.graph(), 1);
    wanted("5", x, 5);
  }

  static void clearEmptiesTheText() {
    ShiftAdds x = new ShiftAdds();
    due("of none", x.clear(), 0);
    x.type('w');
    due("of one", x.clear(), 1);
    due("of none again", x.clear(), 0);
    for (int n = 1; n <= 80; n++) x.type('w');
    due("of eighty", x.clear(), 80);
    due("no letters", x.count(6), 0);
    due("there is room", x.type('w'), 1);
    type(x, "9;");
    due("what was cleared is not read", x.graph(), 1);
    wanted("9", x, 9);
    for (int n = 1; n <= 80; n++) due("there is room for eighty", x.type(' '), n);
    due("not for 81", x.type(' '), FULL);
  }

  static void clearChangesTheTextAlone() {
    ShiftAdds x = told("l7;w5;a0 1 0 0;");
    x.wishes(9);
    x.keep(0);
    x.sees(3, 1);
    type(x, "w6;");
    counts("ahead", x, 1, 2, 7, 2, 1, 1, 3, 1);
    x.clear();
    counts("behind", x, 1, 2, 7, 2, 1, 1, 0, 1);
    due("back(0)", x.back(0), 1);
  }

  // ---- a text as a whole

  static void anEmptyTextTellsNothing() {
    ShiftAdds x = told("l7;w5;a0 1 0 0;");
    x.wishes(9);
    x.keep(0);
    x.keep(1);
    x.sees(3, 1);
    due("graph()", x.graph(), 0);
    counts("all is anew", x, 0, 0, 6, 0, 0, 0, 0, 0);
    due("IMAGE 0 is gone", x.back(0), STATE);
    due("IMAGE 1 is gone", x.back(1), STATE);
    due("nothing can be UNDONE", x.undo(), STATE);
    due("NEAR is of ONE alone", x.near(0, 0), 16);
    reads("", 0);
    reads(" ", 0);
    reads(BLANK.repeat(80), 0);
  }

  static void eightyLettersAreRead() {
    String blanks = BLANK.repeat(77);
    reads(blanks + "w5;", 1);
    reads("w5;" + blanks, 1);
    reads("w" + blanks + "5;", 1);
    fault(blanks + "w5l", 79);
    fault(blanks + "w5 ", 80);
    fault(blanks + "  w", 80);
    fault(blanks + "w55", 80);
    fault(blanks + "  ;", 79);
    fault("w5;" + BLANK.repeat(76) + "5", 79);
  }

  static void theNumberOfItems() {
    reads("l1;", 1);
    reads("w1;", 1);
    reads("a0 0 0 0;", 1);
    reads("l1;w1;a0 0 0 0;", 3);
    reads("w1;w2;w3;w4;w5;w6;", 6);
    reads("l9;w1;w2;w3;w4;w5;w6;", 7);
    reads("w1;w2;w3;w4;w5;w6;a0 0 0 0;a0 0 0 0;a0 0 0 0;a0 0 0 0;a0 0 0 0;a0 0 0 0;", 12);
    reads("l9;w1;w2;w3;w4;w5;a0 0 0 0;a0 0 0 0;a0 0 0 0;a0 0 0 0;a0 0 0 0;a0 0 0 0;", 12);
    reads("a0 0 0 0;a0 0 0 0;a0 0 0 0;a0 0 0 0;a0 0 0 0;a0 0 0 0;a0 0 0 0;a0 0 0 0;w1;w22;", 10);
    reads("a0 0 0 0;w1;a0 0 0 0;w2;", 4);
  }

  static void whatIsNotToldIsAsAtFirst() {
    ShiftAdds x = told("l9;w5;w7;a0 1 0 0;");
    type(x, "w9;");
    due("graph()", x.graph(), 1);
    counts("THE LIMIT is 6, no ADDERS", x, 0, 1, 6, 1, 0, 0, 0, 0);
    wanted("9 alone", x, 9);
    type(x, "a0 2 0 0;");
    due("graph()", x.graph(), 1);
    counts("nothing WANTED", x, 1, 0, 6, 0, 1, 0, 0, 0);
    odd("5", x, 1, 5, 1, 0, 0, 2, 0, 0);
    type(x, "l2;");
    due("graph()", x.graph(), 1);
    counts("THE LIMIT alone", x, 0, 0, 2, 0, 0, 0, 0, 0);
  }

  static void blanksAreLetter32Alone() {
    reads("  l  9  ;  w  5  ;  a  0  1  0  0  ;  ", 3);
    reads("l9;w5;a0 1 0 0;", 3);
    int[] white = {0, 9, 10, 11, 12, 13, 31, 33, 127, 133, 160, 255};
    for (int letter : white) {
      fault((char) letter + "w5;", 0);
      fault("w" + (char) letter + "5;", 1);
      fault("w5" + (char) letter + ";", 2);
      fault("w5;" + (char) letter, 3);
    }
  }

  static void otherLettersAreNoTokens() {
    String others = "LWAbkmvxz,:.-+_/@`'\"()";
    for (int i = 0; i < others.length(); i++) {
      String letter = others.substring(i, i + 1);
      faultsAt("", letter);
      faultsAt("l", letter);
      faultsAt("w5", letter);
      faultsAt("w5;", letter);
      faultsAt("a0 1", letter);
      faultsAt("a0 1 0 0", letter);
    }
  }

  // ---- which TOKEN can stand where

  static void anItemBeginsWithItsLetter() {
    faultsAt("", ";", "0", "5", "10000", "00", "#");
    faultsAt("w5;", ";", "0", "5", "10000", "00", "#", "l");
    faultsAt("l5;", ";", "0", "5", "10000", "00", "#", "l");
    faultsAt("a0 0 0 0;", ";", "0", "5", "10000", "00", "#", "l");
  }

  static void behindLStandsALimit() {
    faultsAt("l", "l", "w", "a", ";", "#", "0", "10", "11", "99", "1023", "9999", "10000", "00", "01", "09");
    for (int limit = 1; limit <= 9; limit++) {
      ShiftAdds x = told("l" + limit + ";");
      due("THE LIMIT", x.count(2), limit);
    }
  }

  static void behindWStandsAConstant() {
    faultsAt("w", "l", "w", "a", ";", "#", "0", "1024", "1025", "9999", "10000", "10005", "00", "01", "01023");
    int[] constants = {1, 2, 9, 10, 99, 100, 999, 1000, 1022, 1023};
    for (int c : constants) wanted("told", told("w" + c + ";"), c);
  }

  static void behindAStandsANumberOfOdds() {
    faultsAt("a", "l", "w", "a", ";", "#", "1", "2", "12", "13", "9999", "10000", "00", "01");
    reads("a0 0 0 0;", 1);
    faultsAt("a0 0 0 0;a", "2", "3", "10", "00", "01");
    reads("a0 0 0 0;a1 0 0 0;", 2);
    faultsAt("a0 0 0 0;a0 0 0 0;a", "3", "10", "02");
    reads("a0 0 0 0;a0 0 0 0;a2 0 0 0;", 3);
    String seven = "a0 0 0 0;".repeat(7);
    reads(seven + "a7 0 0 0;", 8);
    faultsAt(seven + "a", "8", "9", "07");
  }

  static void behindPStandsAShift() {
    faultsAt("a0", "l", "w", "a", ";", "#", "10", "11", "32", "9999", "10000", "00", "09");
    for (int s = 0; s <= 9; s++) {
      ShiftAdds x = told("a0 " + s + " 0 0;");
      odd("told", x, 1, s == 0 ? 1 : (1 << s) + 1, 1, 0, 0, s, 0, s == 0 ? 1 : 0);
    }
  }

  static void behindTheShiftStandsANumberOfOdds() {
    faultsAt("a0 1", "l", "w", "a", ";", "#", "1", "2", "12", "13", "9999", "10000", "00", "01");
    faultsAt("a0 0 0 0;a0 1", "2", "3", "10", "00", "01");
    reads("a0 0 0 0;a0 1 1 0;", 2);
    String seven = "a0 0 0 0;".repeat(7);
    reads(seven + "a0 0 7 0;", 8);
    faultsAt(seven + "a0 0", "8", "9", "07");
  }

  static void behindQStandsAForm() {
    faultsAt("a0 1 0", "l", "w", "a", ";", "#", "4", "5", "10", "9999", "10000", "00", "03");
    int[] values = {9, 7, 9, 7};
    for (int form = 0; form < 4; form++) {
      odd("told", told("a0 3 0 " + form + ";"), 1, values[form], 1, 0, 0, 3, form, 0);
    }
  }

  static void behindTheLastNumberStandsASemicolon() {
    faultsAt("l5", "l", "w", "a", "#", "0", "5", "10000");
    faultsAt("w5", "l", "w", "a", "#", "0", "5", "10000");
    faultsAt("a0 1 0 0", "l", "w", "a", "#", "0", "5", "10000");
  }

  // ---- what can't stand, though it is of the right kind

  static void theLimitIsToldFirstOfAll() {
    reads("l3;w5;a0 1 0 0;", 3);
    faultsAt("l3;", "l");
    faultsAt("w5;", "l");
    faultsAt("a0 1 0 0;", "l");
    faultsAt("l3;w5;", "l");
    faultsAt("l3;a0 1 0 0;", "l");
  }

  static void aSeventhWantedIsAtItsLetter() {
    String six = "w1;w2;w3;w4;w5;w6;";
    reads(six, 6);
    faultsAt(six, "w");
    fault(six + "w7;", 18);
    fault(six + "w1;", 18);
    fault("l9;" + six + "w7;", 21);
    fault(six + "a0 1 0 0;w7;", 27);
    wanted("six", told(six), 1, 2, 3, 4, 5, 6);
  }

  static void oneWantedAlreadyIsAtItsNumber() {
    faultsAt("w5;w", "5");
    faultsAt("w5;w6;w", "5", "6");
    faultsAt("w1;w2;w3;w4;w5;w", "1", "5");
    reads("w5;w10;w20;", 3);
    wanted("each once", told("w5;w10;w20;"), 5, 10, 20);
  }

  static void anAdderOfWhichNothingComesIsAtItsForm() {
    faultsAt("a0 0 0", "1", "3");
    reads("a0 0 0 0;", 1);
    reads("a0 0 0 2;", 1);
    reads("a0 1 0 1;", 1);
    reads("a0 1 0 3;", 1);
    faultsAt("a0 1 0 0;a0 1 0 0;a1 0 2", "1", "3");
  }

  static void anAdderOfWhichTooMuchComesIsAtItsForm() {
    String ahead = "a0 9 0 1;a0 9 0 0;a0 1 0 0;";
    reads(ahead + "a0 9 1 0;", 4);
    faultsAt(ahead + "a0 9 2", "0");
    reads(ahead + "a2 1 3 1;", 4);
    faultsAt(ahead + "a2 1 0", "1");
    reads(ahead + "a1 9 0 2;", 4);
    faultsAt(ahead + "a2 9 0", "2");
    reads(ahead + "a3 1 2 3;", 4);
    faultsAt(ahead + "a0 1 2", "3");
    reads(ahead + "a1 0 1 0;", 4);
    faultsAt(ahead + "a1 0 2", "0", "2");
  }

  static void anAdderThatIsTooDeepIsAtItsForm() {
    reads("l1;a0 1 0 0;", 2);
    faultsAt("l1;a0 1 0 0;a1 1 0", "0", "1", "2", "3");
    faultsAt("l1;a0 1 0 0;a0 1 1", "0", "1", "2", "3");
    reads("l2;a0 1 0 0;a1 1 0 0;", 3);
    String sixDeep = "a0 0 0 0;a1 0 1 0;a2 0 2 0;a3 0 3 0;a4 0 4 0;a5 0 5 0;";
    reads(sixDeep, 6);
    faultsAt(sixDeep + "a6 0 6", "0");
    reads("l6;" + sixDeep, 7);
    faultsAt("l6;" + sixDeep + "a6 0 6", "0");
    reads("l7;" + sixDeep + "a6 0 6 0;", 8);
    faultsAt("l5;" + sixDeep.substring(0, 45) + "a5 0 5", "0");
  }

  static void aFormBeyondThreeIsAFaultWhateverComes() {
    faultsAt("a0 0 0", "4");
    faultsAt("l1;a0 1 0 0;a1 1 0", "4");
  }

  static void aZeroAloneIsANumberAheadOfOthersItIsNot() {
    reads("a0 0 0 0;", 1);
    faultsAt("a", "00", "000", "01", "00000");
    faultsAt("a0 0 0", "00", "01");
    reads("w10;", 1);
    reads("w100;", 1);
    fault("w010;", 1);
  }

  static void numbersFarBeyondAreFaults() {
    faultsAt("w", "9999", "10000", "65537", "2147483648", "4294967297", "18446744073709551617");
    fault("w" + "1".repeat(79), 1);
    fault("9".repeat(80), 0);
    fault("w" + "0".repeat(78) + "5", 1);
  }

  static void theTextEndsTooEarly() {
    endsTooEarly("l");
    endsTooEarly("l5");
    endsTooEarly("w");
    endsTooEarly("w5");
    endsTooEarly("a");
    endsTooEarly("a0");
    endsTooEarly("a0 1");
    endsTooEarly("a0 1 0");
    endsTooEarly("a0 1 0 0");
    endsTooEarly("l5;w");
    endsTooEarly("w5;w6");
    endsTooEarly("w1;w2;w3;w4;w5;w6");
    endsTooEarly("l1;a0 1 0 0;a1 1 0");
    fault("w" + BLANK.repeat(79), 80);
  }

  static void theFirstOfSeveralFaultsCounts() {
    fault("w0;w0;", 1);
    fault("w 0 # 00", 2);
    fault("w5;;#", 3);
    fault("# w", 0);
    fault("w5;w5 #", 4);
    fault("a0 0 0 1 ; l", 7);
    fault("a5 10 5 4", 1);
    fault("a0 10 5 4", 3);
    fault("a0 1 5 4", 5);
  }

  // ---- a FAULT changes nothing

  static void behindAFaultTheTextCanBeToldOn() {
    ShiftAdds x = new ShiftAdds();
    type(x, "w5");
    due("graph()", x.graph(), -12);
    due("a letter more", x.type(';'), 3);
    due("graph()", x.graph(), 1);
    wanted("5", x, 5);
  }

  static void behindAFaultNothingOfItIsThere() {
    ShiftAdds x = told("l7;w3;w9;a0 1 0 0;");
    x.wishes(12);
    x.keep(1);
    x.sees(3, 1);
    type(x, "l1;w44;a0 2 0 0;a1 0 0 0;");
    due("too deep", x.graph(), -10 - 23);
    counts("behind the fault", x, 1, 3, 7, 1, 1, 1, 25, 1);
    wanted("behind the fault", x, 3, 9, 12);
    odd("behind the fault", x, 1, 3, 1, 0, 0, 1, 0, 0);
    due("NEAR", x.near(0, 1), 5);
    due("undo()", x.undo(), 0);
    wanted("undone", x, 3, 9);
    due("back(0)", x.back(0), STATE);
    due("back(1)", x.back(1), 1);
    wanted("as kept", x, 3, 9, 12);
  }

  static void behindAFaultAFullTextIsFull() {
    ShiftAdds x = new ShiftAdds();
    for (int n = 1; n <= 80; n++) x.type('w');
    due("graph()", x.graph(), -11);
    due("the 81st", x.type(' '), FULL);
    due("clear()", x.clear(), 80);
  }

  static void readAnewAllElseIsGone() {
    ShiftAdds x = told("w3;");
    for (int n = 0; n < 11; n++) x.limits(1 + n % 9);
    for (int n = 0; n < 6; n++) x.sees(2, 1);
    x.keep(0);
    x.keep(1);
    type(x, "w5;");
    due("graph()", x.graph(), 1);
    counts("5 alone", x, 0, 1, 6, 1, 0, 0, 0, 0);
    due("undo()", x.undo(), STATE);
    due("back(0)", x.back(0), STATE);
    due("back(1)", x.back(1), STATE);
    due("forget()", x.forget(), 0);
    due("UNSEEN", x.unseen(0), 16);
    due("the text again", x.graph(), 0);
    counts("nothing", x, 0, 0, 6, 0, 0, 0, 0, 0);
  }

  static void readAnewWhatIsNearIsAsTold() {
    ShiftAdds x = told("w11;a0 1 0 0;");
    due("NEAR", x.near(9, 1), 11);
    due("UNSEEN", x.unseen(1), 5);
    plan(x, 0, 11);
    type(x, "w43;w13;");
    due("graph()", x.graph(), 2);
    due("NEAR", x.near(9, 1), 15);
    due("UNSEEN", x.unseen(1), 3);
    due("TWO", x.two(13), 3);
    plan(x, 0, 3, 13, 5, 43);
  }

  public static void main(String[] args) {
    runAll(BoundsOfTextTest.class);
  }
}
