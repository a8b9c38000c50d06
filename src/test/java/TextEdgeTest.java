/** The edges of what is told: terms I, promises 1 to 9, sentence by sentence. */
public final class TextEdgeTest {
  private static final int NONE = PivotStreet.NONE;
  private static final String FIRST = Texts.town(4, 0, 10, 0);
  private static final String LONG = FIRST + Texts.house(7);

  public static void main(String[] args) {
    newObject();
    feedFull();
    feedRefused();
    endEdges();
    townOfNothing();
    townFaultStays();
    townTakesAll();
    townBehindOthers();
    faultAnswers();
    faultPlaces();
    faultEnd();
    bounds();
    tooMany();
    firstLine();
    tokens();
    sentences();
    lettersAhead();
    house();
    place();
    letter();
    snows();
    Due.finish();
  }

  // Promise 1: "No TOWN."
  private static void newObject() {
    PivotStreet x = new PivotStreet();
    Due.is("1 a new object", State.of(x), "0 0 0 0 0 0 0 0 0 0 0 0 | -2 -2 -2 s-2/-2 s-2/-2 s-2/-2 s-2/-2");
    for (int k = 0; k < 3; k++) Due.is("1 image " + k + " has nothing", x.back(k), -6);
    for (int slot = 0; slot < 4; slot++) Due.is("1 slot " + slot + " has nothing", x.write(slot, 0, 0), -6);
  }

  // Promise 2: "how many it has; NONE, and none come, if it would have more than 800."
  private static void feedFull() {
    PivotStreet x = new PivotStreet();
    for (int i = 1; i <= 40; i++) Due.is("2 feed " + i, x.feed(0x20202020, 0x20202020, 0x20202020, 0x20202020, 0x20202020), 20 * i);
    Due.is("2 feed of a full tape", x.feed(0, 0, 0, 0, 0), NONE);
    Due.is("2 none came", x.count(10), 800);
    for (int left = 1; left < 20; left++) {
      x.end(800 - left);
      Due.is("2 feed with room for " + left, x.feed(-1, -1, -1, -1, -1), NONE);
      Due.is("2 none came with room for " + left, x.count(10), 800 - left);
    }
    Due.is("2 blanks alone are left", x.town(), 0);
    Due.is("2 no fault in them", x.fault(0), 0);
  }

  private static void feedRefused() {
    PivotStreet x = new PivotStreet();
    Tape.put(x, FIRST + " ".repeat(800 - FIRST.length()));
    Due.is("2 full to the last byte", x.count(10), 800);
    Due.is("2 feed of a full tape", x.feed(-1, -1, -1, -1, -1), NONE);
    Due.is("2 the text is as it was", x.town(), 1);
    Due.is("2 feed to an empty tape", x.feed(0x746f776e, 0x20776565, 0x6b732031, 0x206c6177, 0x30686561), 20);
    Due.is("2 feed behind it, the highest first", x.feed(0x7679206f, 0x64647330, 0x3b202020, 0x20202020, 0x20202020), 40);
    Due.is("2 its end", x.end(20), 20);
    Due.is("2 feed", x.feed(0x76792031, 0x206f6464, 0x7330203b, 0x0a0a0a0a, 0x20202020), 40);
    Due.is("4 town weeks 1 law 0 heavy 1 odds 0", x.town(), 1);
    Due.is("4 heavy", x.count(2), 1);
    x.feed(0xffffffff, 0x80808080, 0x7f7f7f7f, 0, 0);
    Due.is("4 bytes above 127", x.town(), -4);
    Due.is("5 at the first of them", x.fault(1), 0);
  }

  // Promise 3: "n; NONE, and nothing happens, if it has not so many, or n is below 0."
  private static void endEdges() {
    PivotStreet x = new PivotStreet();
    Due.outside("3 end of an empty tape", 0, 0, x::end, NONE);
    Due.is("3 end(0) of an empty tape", x.end(0), 0);
    Tape.put(x, LONG);
    int all = LONG.length();
    Due.outside("3 end", 0, all, x::end, NONE);
    Due.is("3 nothing happens", x.count(10), all);
    Due.is("3 end of all", x.end(all), all);
    Due.is("3 end of fewer", x.end(FIRST.length()), FIRST.length());
    Due.is("3 they are gone", x.end(FIRST.length() + 1), NONE);
    Due.is("3 the first alone are read", x.town(), 1);
    Tape.put(x, LONG);
    Due.is("3 end(0)", x.end(0), 0);
    Due.is("3 none are read", x.town(), 0);
    Tape.put(x, "xyz");
    x.end(0);
    Due.is("3 another text in their place", Tape.town(x, FIRST), 1);
    endWithinToken("town weeks 4 law 0 heavy 10 odds 10;", 34, 34);
    endWithinToken(FIRST + "house push 5 leans;", FIRST.length() + 17, FIRST.length() + 13);
    endWithinToken(FIRST + "house push 40;", FIRST.length() + 12, FIRST.length() + 12);
    endWithinToken(FIRST + "house push 5;", FIRST.length() + 4, FIRST.length());
    Tape.put(x, "town weeks 4 law 0 heavy 10 odds 10;");
    x.end(34);
    Due.is("3 what was cut off is no part of it", Tape.town(x, ";"), 1);
    Due.is("3 a number that was cut", x.count(3), 1);
    Tape.put(x, FIRST + "house push 5;");
    x.end(FIRST.length() + 3);
    Due.is("3 a word goes on", Tape.town(x, "se push 7;"), 2);
    Due.is("3 a house that was cut", x.house(0, 0), 7);
  }

  private static void endWithinToken(String text, int size, int place) {
    PivotStreet x = new PivotStreet();
    Tape.put(x, text);
    Due.is("3 end within a token", x.end(size), size);
    Due.is("4 of " + text + " cut to " + size, x.town(), -4);
    Due.is("5 of " + text + " cut to " + size, x.fault(0), 1);
    Due.is("5 place, of " + text + " cut to " + size, x.fault(1), place);
  }

  // Promise 4: "how many LINES (0: there is none then)."
  private static void townOfNothing() {
    for (String text : new String[] {"", " ", "\n", " \n \n\n  "}) {
      PivotStreet x = Tape.street(LONG);
      x.rest(0, 0);
      x.row(1, 0, 0);
      Due.is("4 town of blanks", Tape.town(x, text), 0);
      Due.is("4 there is none then", State.of(x), "0 0 0 0 0 0 0 0 0 0 0 1 | -2 -2 -2 s-2/-2 s-2/-2 s-2/-2 s-2/-2");
      Due.is("5 no fault", x.fault(0), 0);
      Due.is("5 no place of one", x.fault(1), NONE);
    }
  }

  // Promise 4: "-4: a FAULT (all stays)."
  private static void townFaultStays() {
    PivotStreet x = Tape.street(Texts.ring(3, 4) + Texts.place(1, 5, 2) + Texts.snow(2) + Texts.letter(1, 2, 1));
    x.rate(1, 3);
    x.swap(0, 2, 1);
    x.rest(1, 0);
    x.row(0, 1, 2);
    x.row(2, 0, 4);
    String before = State.of(x);
    String[] faulty = {"x", FIRST + "house push 41;", FIRST + Texts.house(1, 2, 3) + "snow at 1", FIRST + Texts.snow(1, 2, 3, 4, 5)};
    for (String text : faulty) {
      Due.is("4 a fault", Tape.town(x, text), -4);
      Due.is("4 all stays", State.of(x), before);
    }
    Due.is("4 acts can be taken back as before", x.undo(), 1);
    Due.is("4 acts can be taken back as before", x.undo(), 0);
    Due.is("75 so can push be told", x.rate(1, 0), 3);
  }

  // Promise 4: "The TAPE (empty then) is the TOWN (in place of another), nothing done".
  private static void townTakesAll() {
    PivotStreet x = Tape.street(Texts.ring(8, 20) + Texts.place(0, 20, 20) + Texts.place(1, 20, 20) + Texts.snow(0, 1) + Texts.letter(7, 7, 7));
    x.rest(0, 0);
    x.swap(1, 2, 0);
    Due.is("4 another", Tape.town(x, FIRST + Texts.house(7, 0)), 3);
    Due.is("4 nothing of the one before", State.of(x), "4 0 10 0 2 0 0 0 0 3 0 0 | 0 0 0 h7/0/0/0/28/0/0/0 h0/0/0/0/0/0/1/1 w7/0 w7/0 w7/0 w7/0 s-6/-6 s-6/-6 s-6/-6 s-6/-6");
    Due.is("71 nothing done", x.undo(), -5);
    Due.is("4 the tape is empty then", x.end(1), NONE);
    Due.is("4 it is not read twice", x.town(), 0);
    PivotStreet leaning = Tape.street(FIRST + Texts.lean(5) + Texts.letter(0, 1, 1));
    Tape.town(leaning, FIRST + Texts.house(5));
    Due.is("4 who leant before does not", leaning.house(0, 1), 0);
    Due.is("4 no letter is left", leaning.letter(0, 0), -2);
  }

  // Promise 4: "in place of another", however full that one was, and however far a faulty text came.
  private static void townBehindOthers() {
    String full = Texts.town(20, 3, 30, 10) + "house push 40 leans;".repeat(8) + "place 0 sun 20 smell 20;".repeat(10) + Texts.snow(0, 1, 2, 3) + "letter 7 to 7 at 19;".repeat(8);
    String[] ahead = {full, full + "house push 1;", full + "?", full};
    String[] few = {"", Texts.town(1, 0, 1, 0), Texts.town(2, 0, 10, 3) + Texts.house(10, 0), Texts.town(3, 2, 7, 5) + Texts.house(4, 5) + Texts.lean(6) + Texts.place(1, 2, 3) + Texts.snow(1) + Texts.letter(2, 1, 1)};
    for (String text : few) {
      PivotStreet used = new PivotStreet();
      for (String other : ahead) {
        if (Tape.town(used, other) > 0) {
          used.rest(0, 1);
          used.swap(0, 7, 0);
          used.swap(1, 6, 2);
        }
      }
      Tape.town(used, text);
      PivotStreet fresh = Tape.street(text);
      used.row(0, 0, 0);
      fresh.row(0, 0, 0);
      Due.is("4 nothing is left of others", State.of(used), State.of(fresh));
      Due.is("4 nothing is left of others in all that is asked", State.wide(used), State.wide(fresh));
    }
  }

  // Promise 5: "NONE for another what, and ahead of any (what 1)." "0 without"
  private static void faultAnswers() {
    PivotStreet x = new PivotStreet();
    Due.is("5 ahead of any", x.fault(0), 0);
    Due.is("5 ahead of any, its place", x.fault(1), NONE);
    Due.outside("5 ahead of any", 0, 1, x::fault, NONE);
    Tape.town(x, "x");
    Due.is("5 a fault", x.fault(0), 1);
    Due.is("5 its place", x.fault(1), 0);
    Due.outside("5 with a fault", 0, 1, x::fault, NONE);
    Tape.town(x, FIRST);
    Due.is("5 of the latest alone", x.fault(0), 0);
    Due.is("5 no place", x.fault(1), NONE);
    Due.outside("5 without a fault", 0, 1, x::fault, NONE);
    Tape.town(x, FIRST + "snow at 20;");
    Due.is("5 a fault again", x.fault(0), 2);
    Tape.town(x, "");
    Due.is("5 nothing told is no fault", x.fault(0), 0);
    Due.is("5 nothing told has no place of one", x.fault(1), NONE);
  }

  private static void fault(String what, String text, int kind, int place) {
    PivotStreet x = Tape.street(LONG);
    Due.is("I " + what + ": " + text, Tape.town(x, text), -4);
    Due.is("I " + what + ", its fault: " + text, x.fault(0), kind);
    Due.is("I " + what + ", its place: " + text, x.fault(1), place);
  }

  private static void good(String what, String text, int lines) {
    PivotStreet x = new PivotStreet();
    Due.is("I " + what + ": " + text, Tape.town(x, text), lines);
    Due.is("I " + what + ", no fault: " + text, x.fault(0), 0);
  }

  // Terms I: "the first by its place (a TOKEN's first byte; the end's), of one place the least".
  private static void faultPlaces() {
    fault("the first by its place", FIRST + "house push 41 ?", 2, 46);
    fault("the first by its place", FIRST + "house push ? 41", 1, 46);
    fault("the first by its place", FIRST + "house push 41;town", 2, 46);
    fault("the first by its place", FIRST + Texts.snow(1, 1, 1, 1) + "snow at 20;", 3, 75);
    fault("the first by its place", FIRST + Texts.snow(1, 1, 1, 1) + "snow?", 3, 75);
    fault("the first by its place", FIRST + Texts.snow(1, 1, 1) + "snow at 20;snow at 1;", 2, 73);
    fault("a token's first byte", FIRST + "house push   \n  41", 2, 51);
    fault("a token's first byte", FIRST + "house  pushed 4;", 1, 42);
    fault("of one place the least", FIRST + "house 99;", 1, 41);
    fault("of one place the least", "99;", 1, 0);
    fault("of one place the least", FIRST + "99;", 1, 35);
    fault("at place 0", "Town", 1, 0);
  }

  // Terms I: "the end's" place, where the text is not at an end.
  private static void faultEnd() {
    String whole = Texts.town(4, 0, 10, 0) + "house push 7 leans;place 0 sun 1 smell 2;snow at 3;letter 0 to 1 at 2;";
    int lines = 0;
    for (int n = 0; n <= whole.length(); n++) {
      String text = whole.substring(0, n);
      boolean atEnd = text.isEmpty() || text.endsWith(";");
      if (atEnd) {
        good("a text that is at an end", text, lines);
        lines++;
      } else if (text.endsWith(" ") || whole.charAt(n) == ' ' || whole.charAt(n) == ';') {
        fault("a text that is not at an end", text, 1, n);
        fault("blanks behind it", text + " \n ", 1, n + 3);
      }
    }
    Due.is("I all of its lines were ends", lines, 6);
    String full = "town" + " ".repeat(796);
    fault("the end of a full tape", full, 1, 800);
    fault("the last byte of a full tape", FIRST + " ".repeat(764) + "?", 1, 799);
    good("a full tape", " ".repeat(765) + FIRST, 1);
    good("a full tape", FIRST + " ".repeat(765), 1);
  }

  // Terms I: bounds of each number, at both ends.
  private static void bounds() {
    bound("town weeks ", " law 0 heavy 10 odds 0;", "", 1, 20);
    bound("town weeks 4 law ", " heavy 10 odds 0;", "", 0, 3);
    bound("town weeks 4 law 0 heavy ", " odds 0;", "", 1, 30);
    bound("town weeks 4 law 0 heavy 10 odds ", ";", "", 0, 10);
    bound(FIRST + "house push ", ";", "", 0, 40);
    bound(FIRST + "house push ", " leans;", "", 0, 40);
    bound(FIRST + "place ", " sun 0 smell 0;", "", 0, 7);
    bound(FIRST + "place 0 sun ", " smell 0;", "", 0, 20);
    bound(FIRST + "place 0 sun 0 smell ", ";", "", 0, 20);
    bound(FIRST + "snow at ", ";", "", 0, 19);
    bound(LONG + "letter ", " to 0 at 0;", "", 0, 0);
    bound(FIRST + Texts.house(1, 2, 3, 4, 5, 6, 7, 8) + "letter ", " to 0 at 0;", "", 0, 7);
    bound(LONG + "letter 0 to ", " at 0;", "", 0, 7);
    bound(LONG + "letter 0 to 0 at ", ";", "", 0, 19);
  }

  private static void bound(String ahead, String behind, String more, int least, int most) {
    int lines = (int) (ahead + behind + more).chars().filter(c -> c == ';').count();
    good("the least", ahead + least + behind + more, lines);
    good("the most", ahead + most + behind + more, lines);
    good("digits 0 ahead of it", ahead + "000000000000000000000" + most + behind + more, lines);
    fault("too large", ahead + (most + 1) + behind + more, 2, ahead.length());
    if (least > 0) fault("too small", ahead + (least - 1) + behind + more, 2, ahead.length());
    String[] wraps = {"256", "65536", "2147483647", "2147483648", "4294967296", "4294967297", "4294967300", "18446744073709551617", "1" + "0".repeat(60), "9".repeat(90)};
    for (String far : wraps) fault("far too large", ahead + far + behind + more, 2, ahead.length());
    fault("below 0", ahead + "-1" + behind + more, 1, ahead.length());
    fault("no number", ahead + behind + more, 1, ahead.length() + (behind.startsWith(" ") ? 1 : 0));
  }

  // Terms I: "3 a 9th house, 11th place, 5th snow, 9th letter, at its word."
  private static void tooMany() {
    full("house push 1;", "", 8);
    full("house push 1 leans;", "", 8);
    full("place 0 sun 1 smell 1;", "", 10);
    full("snow at 3;", "", 4);
    full("letter 0 to 1 at 2;", "house push 1;", 8);
    String all = FIRST + "house push 1;".repeat(8) + "place 7 sun 1 smell 1;".repeat(10) + "snow at 3;".repeat(4) + "letter 7 to 1 at 2;".repeat(8);
    good("all are full", all, 31);
    PivotStreet x = Tape.street(all);
    Due.each("76 all are full", x::count, 4, 8, 10, 4, 8, 0, 31);
  }

  private static void full(String line, String ahead, int most) {
    String text = FIRST + ahead + line.repeat(most);
    int lines = 1 + (ahead.isEmpty() ? 0 : 1) + most;
    good("full", text, lines);
    fault("one more", text + line, 3, text.length());
    fault("one more, blanks ahead", text + " \n" + line, 3, text.length() + 2);
    fault("one more, at its word", text + line.substring(0, line.indexOf(' ')), 3, text.length());
    fault("a fault ahead of it", FIRST + "?" + text.substring(FIRST.length()) + line, 1, 35);
  }

  // Terms I: "town is the first LINE and no other"; "town behind the first LINE, another word ahead of it".
  private static void firstLine() {
    fault("another word ahead", "house push 5;" + FIRST, 1, 0);
    fault("another word ahead", "place 0 sun 1 smell 1;" + FIRST, 1, 0);
    fault("another word ahead", "snow at 1;" + FIRST, 1, 0);
    fault("another word ahead", "letter 0 to 0 at 0;" + FIRST, 1, 0);
    fault("another word ahead", " ;" + FIRST, 1, 1);
    fault("town behind it", FIRST + FIRST, 1, 35);
    fault("town behind it", LONG + " " + FIRST, 1, LONG.length() + 1);
  }

  // Terms I: "TOKENS, blanks (32, 10) aside, the longest: words (a .. z), numbers (digits), the sign ; ."
  private static void tokens() {
    for (int sign = 0; sign < 256; sign++) {
      boolean blank = sign == 32 || sign == 10;
      String text = FIRST + (char) sign;
      if (blank) good("a blank " + sign, text + Texts.house(1), 2);
      else fault("a sign that is none, or can't stand there, " + sign, text + " " + Texts.house(1), 1, 35);
    }
    for (int sign : new int[] {'`', '{', '/', ':', '<', 'A', 'Z', 9, 13, 0, 127, 128, 255}) {
      fault("a sign behind a word", FIRST + "house" + (char) sign + " push 1;", 1, 40);
      fault("a sign behind a number", FIRST + "house push 1" + (char) sign + ";", 1, 47);
    }
    fault("the longest word", "townweeks 4 law 0 heavy 10 odds 0;", 1, 0);
    fault("a word that is cut", "tow weeks 4 law 0 heavy 10 odds 0;", 1, 0);
    for (String word : new String[] {"a", "z", "az", "za"}) {
      fault("a letter more", "town" + word + " weeks 4 law 0 heavy 10 odds 0;", 1, 0);
      fault("a letter ahead", word + "town weeks 4 law 0 heavy 10 odds 0;", 1, 0);
    }
    fault("the longest number", FIRST + "house push 4 0 0;", 1, 48);
    fault("the longest number", FIRST + "house push 400;", 2, 46);
    good("no blanks between words and numbers", "town weeks4law0heavy10odds0;house push0leans;letter0to0at0;", 3);
    good("blanks everywhere", "\n town \n weeks \n 4\nlaw\n0\nheavy\n10\nodds\n0\n;\n", 1);
  }

  // Terms I: each word of each LINE where it must stand, and nothing behind it.
  private static void sentences() {
    String[] lines = {"house push 7 ;", "house push 7 leans ;", "place 0 sun 1 smell 2 ;", "snow at 3 ;", "letter 0 to 1 at 2 ;"};
    String[] townWords = "town weeks 4 law 0 heavy 10 odds 0 ;".split(" ");
    spoil("", townWords);
    for (String line : lines) spoil(LONG, line.split(" "));
    fault("leans twice", FIRST + "house push 5 leans leans;", 1, 54);
    fault("leans ahead of push", FIRST + "house leans push 5;", 1, 41);
    fault("two signs ;", FIRST + ";", 1, 35);
  }

  private static void spoil(String ahead, String[] words) {
    for (int i = 0; i < words.length; i++) {
      if (words[i].equals("leans")) continue;
      StringBuilder text = new StringBuilder(ahead);
      int place = 0;
      for (int k = 0; k < words.length; k++) {
        if (k == i) {
          place = text.length();
          text.append("quiet ");
        } else {
          text.append(words[k]).append(' ');
        }
      }
      fault("a word in place of " + words[i], text.toString(), 1, place);
      String swapped = text.toString().replace("quiet", Character.isLetter(words[i].charAt(0)) ? "5" : "? ");
      fault("another token in place of " + words[i], swapped, 1, place);
      if (Character.isLetter(words[i].charAt(0))) {
        fault("another first letter of " + words[i], text.toString().replace("quiet", "x" + words[i].substring(1)), 1, place);
        fault("another last letter of " + words[i], text.toString().replace("quiet", words[i].substring(0, words[i].length() - 1) + "x"), 1, place);
        fault("a letter less of " + words[i], text.toString().replace("quiet", words[i].substring(0, words[i].length() - 1)), 1, place);
        fault("a large letter in " + words[i], text.toString().replace("quiet", words[i].substring(0, 1).toUpperCase() + words[i].substring(1)), 1, place);
      }
    }
  }

  // Terms I: "letter: a HOUSE told ahead".
  private static void lettersAhead() {
    fault("no house at all", FIRST + "letter 0 to 0 at 0;", 2, 42);
    fault("a house told behind", FIRST + "letter 0 to 0 at 0;" + Texts.house(1), 2, 42);
    fault("a house told behind", LONG + "letter 1 to 0 at 0;" + Texts.house(1), 2, LONG.length() + 7);
    good("a place that there is not", LONG + Texts.letter(0, 7, 19), 3);
    good("houses behind letters", LONG + Texts.letter(0, 7, 19) + Texts.house(2), 4);
  }

  // Promise 6: "-2: there are none such."
  private static void house() {
    PivotStreet x = Tape.street(FIRST + Texts.house(0, 40) + Texts.lean(0) + Texts.lean(40));
    Due.each("6 push", h -> x.house(h, 0), 0, 0, 40, 0, 40);
    Due.each("6 leans", h -> x.house(h, 1), 0, 0, 0, 1, 1);
    for (int what = 0; what < 2; what++) {
      int kind = what;
      Due.outside("6 no such house", 0, 3, h -> x.house(h, kind), -2);
    }
    for (int h = 0; h < 4; h++) {
      int here = h;
      Due.outside("6 no such what", 0, 1, what -> x.house(here, what), -2);
    }
    PivotStreet eight = Tape.street(FIRST + Texts.house(1, 2, 3, 4, 5, 6, 7) + Texts.lean(8));
    Due.is("6 the 8th", eight.house(7, 0), 8);
    Due.is("6 the 8th leans", eight.house(7, 1), 1);
    Due.outside("6 beyond the 8th", 0, 7, h -> eight.house(h, 0), -2);
    PivotStreet none = Tape.street(FIRST);
    Due.outside("6 a town without houses", 1, 0, h -> none.house(h, 0), -2);
  }

  // Promise 7: "Of a PLACE (there is)"; terms I: "the last one told of a PLACE is it; without: 0, 0".
  private static void place() {
    PivotStreet x = Tape.street(FIRST + Texts.place(1, 9, 9) + Texts.place(2, 20, 20) + Texts.place(7, 3, 4) + Texts.house(1, 1, 1) + Texts.place(1, 0, 1) + Texts.place(1, 1, 0));
    Due.each("7 sun", p -> x.place(p, 0), 0, 0, 1, 20);
    Due.each("7 smell", p -> x.place(p, 1), 0, 0, 0, 20);
    for (int what = 0; what < 2; what++) {
      int kind = what;
      Due.outside("7 no such place", 0, 2, p -> x.place(p, kind), -2);
      Due.is("7 told, but there is none", x.place(7, what), -2);
    }
    Due.outside("7 no such what", 0, 1, what -> x.place(1, what), -2);
    PivotStreet none = Tape.street(FIRST + Texts.place(0, 1, 1));
    Due.is("7 without houses there is none", none.place(0, 0), -2);
    PivotStreet eight = Tape.street(FIRST + "house push 1;".repeat(8) + Texts.place(7, 19, 18));
    Due.is("7 the 8th", eight.place(7, 1), 18);
  }

  // Promise 8: "-2: there are none such."
  private static void letter() {
    PivotStreet x = Tape.street(FIRST + Texts.house(1, 1) + Texts.letter(1, 7, 19) + Texts.letter(0, 0, 0) + Texts.house(1) + Texts.letter(2, 1, 5));
    Due.each("8 house", l -> x.letter(l, 0), 0, 1, 0, 2);
    Due.each("8 place", l -> x.letter(l, 1), 0, 7, 0, 1);
    Due.each("8 week", l -> x.letter(l, 2), 0, 19, 0, 5);
    for (int what = 0; what < 3; what++) {
      int kind = what;
      Due.outside("8 no such letter", 0, 2, l -> x.letter(l, kind), -2);
    }
    Due.outside("8 no such what", 0, 2, what -> x.letter(1, what), -2);
    PivotStreet none = Tape.street(LONG);
    Due.outside("8 no letters", 1, 0, l -> none.letter(l, 0), -2);
    PivotStreet eight = Tape.street(LONG + "letter 0 to 0 at 0;".repeat(7) + Texts.letter(0, 6, 18));
    Due.is("8 the 8th", eight.letter(7, 2), 18);
    Due.outside("8 beyond the 8th", 0, 7, l -> eight.letter(l, 0), -2);
  }

  // Promise 9: "WEEKS of SNOW (ahead of the last), as bits. -2: there is no TOWN."
  private static void snows() {
    Due.is("9 none", Tape.street(FIRST).snows(), 0);
    Due.is("9 the last week is not one", Tape.street(FIRST + Texts.snow(4)).snows(), 0);
    Due.is("9 the one ahead of it is", Tape.street(FIRST + Texts.snow(3)).snows(), 8);
    Due.is("9 beyond the last", Tape.street(FIRST + Texts.snow(5, 19, 0)).snows(), 1);
    Due.is("9 twice", Tape.street(FIRST + Texts.snow(2, 2)).snows(), 4);
    Due.is("9 week 19", Tape.street(Texts.town(20, 0, 1, 0) + Texts.snow(19, 18, 1, 0)).snows(), 3 << 18 | 3);
    Due.is("9 one week", Tape.street(Texts.town(1, 0, 1, 0) + Texts.snow(0, 1)).snows(), 1);
    Due.is("9 no town", new PivotStreet().snows(), -2);
    Due.is("76 snows told are counted all", Tape.street(FIRST + Texts.snow(2, 2, 19)).count(6), 3);
  }
}
