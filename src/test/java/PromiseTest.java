/** Each promise by answers that were worked out by hand: ordinary ones, edges, wrong inputs. */
public final class PromiseTest {
  private static int wrong = 0;
  private static int checks = 0;
  private static final int NONE = PivotStreet.NONE;

  private static final String FIRST = "town weeks 4 law 0 heavy 10 odds 0;";
  private static final String FOUR = "town weeks 4 law 0 heavy 10 odds 5;"
      + "house push 20;house push 15 leans;house push 30;house push 12;"
      + "place 0 sun 9 smell 9;place 0 sun 10 smell 0;place 1 sun 5 smell 5;place 2 sun 1 smell 20;place 3 sun 7 smell 2;"
      + "place 6 sun 3 smell 3;snow at 2;snow at 9;"
      + "letter 0 to 3 at 1;letter 1 to 1 at 2;letter 3 to 0 at 1;letter 2 to 5 at 0;letter 2 to 0 at 9;";
  private static final String BARE = "town weeks 2 law 0 heavy 10 odds 3;";
  private static final String SNOWY = "town weeks 2 law 0 heavy 10 odds 3;house push 0;house push 10;house push 0;"
      + "place 0 sun 1 smell 0;place 1 sun 2 smell 0;place 2 sun 4 smell 0;snow at 0;letter 0 to 1 at 1;";

  private static void due(String call, long got, long want) {
    checks++;
    if (got != want) {
      wrong++;
      System.out.println(call + " answered " + got + ", due is " + want);
    }
  }

  public static void main(String[] args) {
    newObject();
    tape();
    faults();
    toldThings();
    whereAndHowHard();
    suns();
    placesOverTheYear();
    letters();
    staying();
    turnsByLaw();
    heavyAndLaws();
    trades();
    seen();
    gates();
    shares();
    games();
    chances();
    acts();
    exchanges();
    drawnYears();
    rates();
    counts();
    images();
    rows();
    townWithoutHouses();
    oneHouse();
    System.out.println(wrong == 0 ? "all " + checks + " answers are as due" : wrong + " answers are not as due");
    if (wrong != 0) System.exit(1);
  }

  private static void newObject() {
    PivotStreet x = new PivotStreet();
    due("1 count(9)", x.count(9), 0);
    due("1 count(10)", x.count(10), 0);
    due("1 count(11)", x.count(11), 0);
    due("1 span", x.span(), -2);
    due("1 stands(0)", x.stands(0), -2);
    due("1 worth(0)", x.worth(0), -2);
    due("1 noon(0)", x.noon(0), -2);
    due("1 same(0)", x.same(0), -2);
    due("1 anew", x.anew(), -2);
    due("1 drawn", x.drawn(0, 0), -2);
    due("1 NONE", PivotStreet.NONE, -1);
    noTown(x);
    noTown(Tape.street(""));
  }

  private static void noTown(PivotStreet x) {
    int[] whole = {
      x.snows(), x.jerk(), x.still(), x.brown(), x.pale(), x.span(), x.home(), x.backs(), x.gold(), x.rights(), x.fair(),
      x.post(), x.law(), x.trade(), x.trades(), x.undo(), x.anew()
    };
    for (int i = 0; i < whole.length; i++) due("1 no town, call " + i, whole[i], -2);
    int[] of0 = {
      x.stands(0), x.strongest(0), x.toil(0), x.sees(0), x.nose(0), x.idle(0), x.all(0), x.noon(0), x.best(0), x.sweet(0),
      x.last(0), x.same(0), x.loose(0), x.late(0), x.right(0), x.wrong(0), x.moves(0), x.by(0), x.leans(0), x.surely(0),
      x.never(0), x.ask(0), x.leaves(0), x.gate(0), x.laws(0), x.worth(0)
    };
    for (int i = 0; i < of0.length; i++) due("1 no town, call of 0 " + i, of0[i], -2);
    int[] of00 = {
      x.house(0, 0), x.place(0, 0), x.letter(0, 0), x.at(0, 0), x.who(0, 0), x.pushes(0, 0), x.sun(0, 0), x.when(0, 0),
      x.apart(0, 0, 0), x.often(0, 0), x.beside(0, 1), x.mates(0, 0), x.view(0, 0), x.stay(0, 0), x.stays(0, 0),
      x.share(0, 0), x.rests(0, 1), x.rest(0, 0), x.swap(0, 1, 0), x.drawn(0, 0), x.luck(0, 1, 0), x.rate(0, 0)
    };
    for (int i = 0; i < of00.length; i++) due("1 no town, call of two " + i, of00[i], -2);
    due("66 no town", x.gets(0, 1, 0, 0), -1000);
    due("67 no town", x.chance(0, 0, 0, 0), -2);
    due("68 no town", x.mean(0, 0, 0), -2);
    due("13 no town", x.force(0), -10000);
    due("14 no town", x.turn(0), -10000);
    for (int what = 0; what < 12; what++) due("76 no town " + what, x.count(what), 0);
  }

  private static void tape() {
    PivotStreet x = new PivotStreet();
    for (int i = 1; i <= 40; i++) due("2 feed", x.feed(0, 1, 2, 3, 4), 20 * i);
    due("2 feed too much", x.feed(0, 0, 0, 0, 0), NONE);
    due("2 tape stays", x.count(10), 800);
    due("3 end(801)", x.end(801), NONE);
    due("3 end(-1)", x.end(-1), NONE);
    due("3 end(781)", x.end(781), 781);
    due("2 feed beyond 800", x.feed(0, 0, 0, 0, 0), NONE);
    due("3 end(780)", x.end(780), 780);
    due("2 feed to 800", x.feed(0, 0, 0, 0, 0), 800);
    due("3 end(0)", x.end(0), 0);
    due("4 town of nothing", x.town(), 0);
    // "town", " wee", "ks 1", " law", " 0  ": the highest byte of a number comes first.
    due("2 feed", x.feed(0x746f776e, 0x20776565, 0x6b732031, 0x206c6177, 0x20302020), 20);
    Tape.put(x, "heavy 1 odds 0;");
    due("4 town", x.town(), 1);
    due("4 tape is empty then", x.count(10), 0);
    due("4 town of nothing takes it away", x.town(), 0);
    due("4 no town", x.span(), -2);
    due("4 no law", x.count(2), 0);
  }

  private static void fault(String text, int kind, int place) {
    PivotStreet x = Tape.street(FOUR);
    x.rest(0, 0);
    due("4 " + text, Tape.town(x, text), -4);
    due("5 kind " + text, x.fault(0), kind);
    due("5 place " + text, x.fault(1), place);
    due("5 what 2", x.fault(2), NONE);
    due("5 what -1", x.fault(-1), NONE);
    due("4 all stays: houses", x.count(4), 4);
    due("4 all stays: acts", x.count(8), 1);
    due("4 all stays: lines", x.count(9), 18);
    due("4 a good one behind it", Tape.town(x, BARE), 1);
    due("5 none now", x.fault(0), 0);
    due("5 no place now", x.fault(1), NONE);
    due("4 nothing done", x.count(8), 0);
  }

  private static void faults() {
    PivotStreet x = new PivotStreet();
    due("5 ahead of any, 0", x.fault(0), 0);
    due("5 ahead of any, 1", x.fault(1), NONE);
    fault("house push 5;", 1, 0);
    fault(" \n town", 1, 7);
    fault("town weeks 4 law 0", 1, 18);
    fault("town weeks 4 law 0  ", 1, 20);
    fault("town weeks 4 law 0 heavy 10 odds 0", 1, 34);
    fault("townweeks 4 law 0 heavy 10 odds 0;", 1, 0);
    fault("town weeks 0 law 0 heavy 10 odds 0;", 2, 11);
    fault("town weeks 21 law 0 heavy 10 odds 0;", 2, 11);
    fault("town weeks 4 law 4 heavy 10 odds 0;", 2, 17);
    fault("town weeks 4 law 0 heavy 0 odds 0;", 2, 25);
    fault("town weeks 4 law 0 heavy 31 odds 0;", 2, 25);
    fault("town weeks 4 law 0 heavy 10 odds 11;", 2, 33);
    fault("town law 0 weeks 4 heavy 10 odds 0;", 1, 5);
    fault("town weeks 4294967300 law 0 heavy 10 odds 0;", 2, 11);
    fault(FIRST + "town", 1, 35);
    fault(FIRST + ";", 1, 35);
    fault(FIRST + "House push 5;", 1, 35);
    fault(FIRST + "houses push 5;", 1, 35);
    fault(FIRST + "hous push 5;", 1, 35);
    fault(FIRST + "4;", 1, 35);
    fault(FIRST + "\t", 1, 35);
    fault(FIRST + "\u00e9", 1, 35);
    fault(FIRST + "house push 5 leans leans;", 1, 54);
    fault(FIRST + "house push 5 leansz;", 1, 48);
    fault(FIRST + "xouse push 5;", 1, 35);
    fault(FIRST + "house push leans;", 1, 46);
    fault(FIRST + "house push 5 5;", 1, 48);
    fault(FIRST + "house push -5;", 1, 46);
    fault(FIRST + "house push 41;", 2, 46);
    fault(FIRST + "place 8 sun 1 smell 1;", 2, 41);
    fault(FIRST + "place 7 sun 21 smell 1;", 2, 47);
    fault(FIRST + "place 7 sun 20 smell 21;", 2, 56);
    fault(FIRST + "snow at 20;", 2, 43);
    fault(FIRST + "letter 0 to 0 at 0;", 2, 42);
    fault(FIRST + "house push 5;letter 1 to 0 at 0;", 2, 55);
    fault(FIRST + "house push 5;letter 0 to 8 at 0;", 2, 60);
    fault(FIRST + "house push 5;letter 0 to 0 at 20;", 2, 65);
    fault(FIRST + "house push 5;".repeat(9), 3, 35 + 8 * 13);
    fault(FIRST + "place 0 sun 1 smell 1;".repeat(11), 3, 35 + 10 * 22);
    fault(FIRST + "snow at 1;".repeat(5), 3, 35 + 4 * 10);
    fault(FIRST + "house push 5;" + "letter 0 to 0 at 0;".repeat(9), 3, 48 + 8 * 19);
    String most = FIRST + "house push 40;".repeat(8) + "place 7 sun 20 smell 20;".repeat(10) + "snow at 19;".repeat(4) + "letter 7 to 7 at 19;".repeat(8);
    due("4 as much as can be told", Tape.town(x, most), 31);
    due("4 as few blanks as can be", Tape.town(x, "town weeks0020law3heavy30odds10;house push0leans;"), 2);
    due("4 weeks", x.count(0), 20);
    due("6 leans", x.house(0, 1), 1);
    due("4 blanks alone", Tape.town(x, " \n "), 0);
  }

  private static void toldThings() {
    PivotStreet x = Tape.street(FOUR);
    due("6 house(0, 0)", x.house(0, 0), 20);
    due("6 house(3, 0)", x.house(3, 0), 12);
    due("6 house(0, 1)", x.house(0, 1), 0);
    due("6 house(1, 1)", x.house(1, 1), 1);
    due("6 house(1, 2)", x.house(1, 2), -2);
    due("6 house(1, -1)", x.house(1, -1), -2);
    due("6 house(4, 0)", x.house(4, 0), -2);
    due("6 house(-1, 0)", x.house(-1, 0), -2);
    due("7 place(0, 0), told last", x.place(0, 0), 10);
    due("7 place(3, 1)", x.place(3, 1), 2);
    due("7 place(6, 0)", x.place(6, 0), -2);
    due("7 place(4, 0)", x.place(4, 0), -2);
    due("7 place(0, 2)", x.place(0, 2), -2);
    due("7 place(-1, 0)", x.place(-1, 0), -2);
    due("8 letter(2, 0)", x.letter(2, 0), 3);
    due("8 letter(2, 1)", x.letter(2, 1), 0);
    due("8 letter(4, 2)", x.letter(4, 2), 9);
    due("8 letter(5, 0)", x.letter(5, 0), -2);
    due("8 letter(0, 3)", x.letter(0, 3), -2);
    due("8 letter(-1, 0)", x.letter(-1, 0), -2);
    due("9 snows", x.snows(), 4);
    due("7 a place of which nothing is told", Tape.street(FIRST + "house push 5;").place(0, 1), 0);
  }

  private static void whereAndHowHard() {
    PivotStreet x = Tape.street(FOUR);
    int[][] at = {{0, 1, 2, 3}, {3, 0, 1, 2}, {1, 2, 3, 0}, {1, 2, 3, 0}, {2, 3, 0, 1}};
    int[][] push = {{20, 10, 10, 10}, {18, 15, 25, 0}, {0, 0, 28, 12}, {15, 0, 28, 12}};
    int[] force = {30, 28, 40, 55};
    int[] turn = {3, 2, 4, 5};
    int[] stands = {0, 3, 1, 1, 2};
    for (int week = 0; week <= 4; week++) {
      for (int h = 0; h < 4; h++) {
        due("10 at", x.at(h, week), at[week][h]);
        due("11 who", x.who(at[week][h], week), h);
        due("12 pushes", x.pushes(h, week), week < 4 ? push[week][h] : -2);
      }
      due("13 force", x.force(week), week < 4 ? force[week] : -10000);
      due("14 turn", x.turn(week), week < 4 ? turn[week] : -10000);
      due("15 stands", x.stands(week), stands[week]);
    }
    due("10 at(4, 0)", x.at(4, 0), -2);
    due("10 at(0, 5)", x.at(0, 5), -2);
    due("10 at(0, -1)", x.at(0, -1), -2);
    due("11 who(4, 0)", x.who(4, 0), -2);
    due("11 who(0, 5)", x.who(0, 5), -2);
    due("12 pushes(4, 0)", x.pushes(4, 0), -2);
    due("12 pushes(0, -1)", x.pushes(0, -1), -2);
    due("13 force(-1)", x.force(-1), -10000);
    due("14 turn(-1)", x.turn(-1), -10000);
    due("15 stands(5)", x.stands(5), -2);
    due("16 jerk", x.jerk(), 3);
    due("17 still", x.still(), 0);
    due("18 strongest(0)", x.strongest(0), 0);
    due("18 strongest(1)", x.strongest(1), 2);
    due("18 strongest(4)", x.strongest(4), -2);
    due("19 toil(0)", x.toil(0), 53);
    due("19 toil(2)", x.toil(2), 91);
    due("19 toil(4)", x.toil(4), -2);
    due("30 idle(0)", x.idle(0), 0);
    due("30 idle(1)", x.idle(1), 8);
    due("30 idle(2)", x.idle(2), 3);
    due("30 idle(4)", x.idle(4), -2);
    due("31 backs", x.backs(), 0);
    due("33 all(1)", x.all(1), 58);
    due("33 all(2)", x.all(2), 40);
    due("33 all(4)", x.all(4), -2);
  }

  private static void suns() {
    PivotStreet x = Tape.street(FOUR);
    due("20 sun(0, 0)", x.sun(0, 0), 10);
    due("20 sun(0, 2)", x.sun(0, 2), 22);
    due("20 sun(0, 4)", x.sun(0, 4), 28);
    due("20 sun(1, 4)", x.sun(1, 4), 24);
    due("20 sun(2, 4)", x.sun(2, 4), 30);
    due("20 sun(3, 4)", x.sun(3, 4), 33);
    due("20 sun(4, 4)", x.sun(4, 4), -2);
    due("20 sun(0, 5)", x.sun(0, 5), -2);
    due("21 brown", x.brown(), 3);
    due("22 pale", x.pale(), 1);
    due("23 span", x.span(), 9);
    due("42 gold", x.gold(), 8);
    PivotStreet alike = Tape.street(FIRST + "house push 5;".repeat(3));
    due("21 brown, the first", alike.brown(), 0);
    due("22 pale, the first", alike.pale(), 0);
    due("23 span of nothing", alike.span(), 0);
    due("42 gold of all", alike.gold(), 7);
  }

  private static void placesOverTheYear() {
    PivotStreet x = Tape.street(FOUR);
    due("24 home", x.home(), NONE);
    due("25 sees(0)", x.sees(0), 15);
    due("25 sees(4)", x.sees(4), -2);
    due("26 when(0, 3)", x.when(0, 3), 1);
    due("26 when(0, 2)", x.when(0, 2), 4);
    due("26 when(0, 0)", x.when(0, 0), 0);
    due("26 when(0, 4)", x.when(0, 4), -2);
    due("27 apart(0, 1, 0)", x.apart(0, 1, 0), 1);
    due("27 apart(1, 0, 0)", x.apart(1, 0, 0), 3);
    due("27 apart(2, 2, 3)", x.apart(2, 2, 3), 0);
    due("27 apart(0, 4, 0)", x.apart(0, 4, 0), -2);
    due("27 apart(0, 1, 5)", x.apart(0, 1, 5), -2);
    due("28 often(0, 1)", x.often(0, 1), 2);
    due("28 often(0, 4)", x.often(0, 4), -2);
    due("29 nose(0)", x.nose(0), 32);
    due("29 nose(1)", x.nose(1), 47);
    due("29 nose(-1)", x.nose(-1), -2);
    due("32 beside(0, 1)", x.beside(0, 1), 0);
    due("32 beside(0, 3)", x.beside(0, 3), 0);
    due("32 beside(0, 2)", x.beside(0, 2), NONE);
    due("32 beside(0, 0)", x.beside(0, 0), -2);
    due("32 beside(0, 4)", x.beside(0, 4), -2);
    due("34 noon(0)", x.noon(0), 0);
    due("34 noon(4)", x.noon(4), 2);
    due("34 noon(5)", x.noon(5), -2);
    due("35 mates(0, 1)", x.mates(0, 1), 10);
    due("35 mates(1, 4)", x.mates(1, 4), 5);
    due("35 mates(0, 5)", x.mates(0, 5), -2);
    due("36 view(0, 0)", x.view(0, 0), 2);
    due("36 view(3, 4)", x.view(3, 4), 1);
    due("36 view(4, 0)", x.view(4, 0), -2);
    due("37 best(0)", x.best(0), 0);
    due("37 best(2)", x.best(2), 4);
    due("37 best(3)", x.best(3), 2);
    due("37 best(4)", x.best(4), -2);
    due("38 sweet(0)", x.sweet(0), 2);
    due("38 sweet(3)", x.sweet(3), 3);
    due("38 sweet(4)", x.sweet(4), -2);
    due("39 last(0)", x.last(0), 0);
    due("39 last(4)", x.last(4), -2);
    due("40 same(0)", x.same(0), 15);
    due("40 same(1)", x.same(1), 0);
    due("40 same(5)", x.same(5), -2);
    due("41 loose(0)", x.loose(0), 0);
    due("41 loose(1)", x.loose(1), 4);
    due("41 loose(2)", x.loose(2), 14);
    due("41 loose(4)", x.loose(4), -2);
    PivotStreet round = Tape.street(FIRST + "house push 10;house push 0;");
    due("24 home of two, one further each week", round.home(), 2);
    due("39 last of two", round.last(1), 4);
    due("25 sees of two", round.sees(1), 3);
    PivotStreet three = Tape.street("town weeks 1 law 1 heavy 5 odds 0;house push 5;house push 0;house push 0;");
    due("26 when never", three.when(0, 2), NONE);
    due("36 view, half of three is one", three.view(2, 0), 0);
    due("25 sees of three", three.sees(2), 5);
  }

  private static void letters() {
    PivotStreet x = Tape.street(FOUR);
    int[] right = {1, 0, 0, 0, 0};
    int[] late = {1, NONE, 2, NONE, NONE};
    int[] wrongs = {NONE, 0, 1, NONE, NONE};
    for (int letter = 0; letter < 5; letter++) {
      due("43 late " + letter, x.late(letter), late[letter]);
      due("44 right " + letter, x.right(letter), right[letter]);
      due("46 wrong " + letter, x.wrong(letter), wrongs[letter]);
    }
    due("43 late(5)", x.late(5), -2);
    due("44 right(5)", x.right(5), -2);
    due("46 wrong(-1)", x.wrong(-1), -2);
    due("45 rights", x.rights(), 1);
    PivotStreet last = Tape.street("town weeks 1 law 0 heavy 5 odds 0;house push 5;house push 0;letter 1 to 0 at 1;letter 1 to 0 at 2;letter 1 to 0 at 0;");
    due("45 rights in the last week, not behind it", last.rights(), 1);
    due("43 late", last.late(2), 1);
    due("43 late, no such week", last.late(1), NONE);
    due("46 wrong, no such week", last.wrong(1), NONE);
  }

  private static void staying() {
    PivotStreet x = Tape.street(FOUR);
    int[][] byTurn = {{3, 0, 0}, {4, 1, 2}, {2, 1, 4}, {1, 1, 1}, {0, 2, 5}, {-1, 3, 13}, {5, NONE, NONE}, {-400, NONE, NONE}, {400, NONE, NONE}, {401, -2, -2}, {-401, -2, -2}};
    for (int[] row : byTurn) {
      due("47 stay(0, " + row[0] + ")", x.stay(0, row[0]), row[1]);
      due("48 stays(0, " + row[0] + ")", x.stays(0, row[0]), row[2]);
    }
    due("47 stay(4, 0)", x.stay(4, 0), -2);
    due("48 stays(-1, 0)", x.stays(-1, 0), -2);
    due("49 moves(0)", x.moves(0), 6);
    due("49 moves(2)", x.moves(2), 4);
    due("49 moves(4)", x.moves(4), -2);
    x.rest(1, 0);
    due("47 besides those that stay in by acts", x.stay(0, 4), 0);
    due("48 those are not in the set", x.stays(0, 3), 4);
    due("49 moves without it", x.moves(0), 5);
  }

  private static void turnsByLaw() {
    int[][] byLaw = {{-2, -2, -2}, {-1, -1, -1}, {0, 0, 0}, {-2, 0, -2}};
    for (int law = 0; law < 4; law++) {
      PivotStreet x = Tape.street("town weeks 3 law " + law + " heavy 10 odds 0;house push 29 leans;house push 5;house push 0;");
      for (int week = 0; week < 3; week++) due("14 turn by " + law, x.turn(week), byLaw[law][week]);
      due("31 backs by " + law, x.backs(), law == 2 ? 0 : law == 3 ? 2 : 3);
      due("17 still by " + law, x.still(), law == 2 ? 7 : law == 3 ? 2 : 0);
      due("13 force by " + law, x.force(0), -24);
    }
    due("14 less than heavy back is cut to 0", Tape.street(FIRST + "house push 9 leans;").turn(0), 0);
    due("14 heavy is enough", Tape.street("town weeks 1 law 1 heavy 10 odds 0;house push 10 leans;").turn(0), -1);
    due("14 less than heavy is not", Tape.street("town weeks 1 law 1 heavy 10 odds 0;house push 9 leans;").turn(0), 0);
    due("14 the rest is 0 or more", Tape.street("town weeks 1 law 2 heavy 10 odds 0;house push 7 leans;house push 0;house push 0;").turn(0), 2);
    PivotStreet back = Tape.street("town weeks 2 law 0 heavy 10 odds 0;house push 10 leans;house push 0;house push 0;");
    due("10 back, round", back.at(0, 1), 2);
    due("10 back, again", back.at(0, 2), 1);
    due("15 stands back, round", back.stands(1), 2);
    due("16 jerk, the first", back.jerk(), 0);
    due("18 strongest leans", back.strongest(0), 0);
    due("33 all, those that lean, too", back.all(0), 10);
  }

  private static void heavyAndLaws() {
    String two = "town weeks 1 law 0 heavy 9 odds 0;house push 10;house push 0;place 0 sun 10 smell 0;";
    PivotStreet x = Tape.street(two + "letter 0 to 1 at 1;");
    due("50 fair", x.fair(), 2);
    due("51 post", x.post(), 2);
    due("51 post, the least", Tape.street(two + "letter 0 to 0 at 1;").post(), 1);
    due("50 heavy stays", x.count(2), 9);
    // Only as heavy as 30 it stands still till the exchange: 10 + 10 for each.
    PivotStreet heaviest = Tape.street("town weeks 3 law 1 heavy 1 odds 0;house push 29;house push 0;place 0 sun 10 smell 0;letter 0 to 0 at 1;");
    heaviest.swap(0, 1, 2);
    heaviest.rest(0, 2);
    due("50 fair, acts hold", heaviest.fair(), 30);
    due("51 post, the heaviest", heaviest.post(), 30);
    PivotStreet four = Tape.street(FOUR);
    int[] spans = {9, 9, 20, 34};
    for (int law = 0; law < 4; law++) due("52 by " + law, four.by(law), spans[law]);
    due("52 by(4)", four.by(4), -2);
    due("52 by(-1)", four.by(-1), -2);
    due("53 law", four.law(), 0);
    due("53 law stays", four.span(), 9);
    due("53 law, another", Tape.street("town weeks 2 law 0 heavy 3 odds 0;house push 6;house push 0;place 0 sun 10 smell 0;").law(), 1);
  }

  private static void trades() {
    String three = "town weeks 1 law 0 heavy 10 odds 0;house push 0;house push 10;house push 0;";
    PivotStreet x = Tape.street(three + "place 0 sun 5 smell 0;place 1 sun 1 smell 10;place 2 sun 20 smell 0;");
    due("54 trade", x.trade(), 1);
    due("55 trades", x.trades(), 1);
    due("54 nothing is done", x.at(0, 0), 0);
    PivotStreet none = Tape.street(three);
    due("54 trade of none", none.trade(), NONE);
    due("55 trades of none", none.trades(), 0);
    x.swap(0, 1, 0);
    // It would be taken back by the one ahead of it, so the two have less.
    due("54 trade ahead of another exchange", x.trade(), NONE);
  }

  private static void seen() {
    PivotStreet x = Tape.street(FOUR);
    due("56 leans, nothing", x.leans(0), -6);
    due("57 surely, nothing", x.surely(0), -6);
    due("58 never, nothing", x.never(0), -6);
    due("59 ask, nothing", x.ask(0), -6);
    due("60 leaves, nothing", x.leaves(0), -6);
    due("56 leans(4)", x.leans(4), -2);
    due("57 surely(-1)", x.surely(-1), -2);
    due("58 never(4)", x.never(4), -2);
    due("59 ask(4)", x.ask(4), -2);
    due("60 leaves(4)", x.leaves(4), -2);
    x.row(0, 1, 2);
    int[][] byTurn = {{3, 3, 0, 1, 1, 1}, {4, 0, NONE, NONE, NONE, 0}, {5, 1, 0, 15, NONE, 1}, {-5, 1, 15, 0, NONE, 1}};
    for (int[] row : byTurn) {
      x.write(0, 1, row[0]);
      due("56 leans " + row[0], x.leans(0), row[1]);
      due("57 surely " + row[0], x.surely(0), row[2]);
      due("58 never " + row[0], x.never(0), row[3]);
      due("59 ask " + row[0], x.ask(0), row[4]);
      due("60 leaves " + row[0], x.leaves(0), row[5]);
    }
    x.write(0, 1, 401);
    due("56 leans of 401", x.leans(0), -2);
    x.write(0, 1, -401);
    due("57 surely of -401", x.surely(0), -2);
    x.write(0, 1, 400);
    due("56 leans of 400", x.leans(0), 0);
    x.write(0, 0, 4);
    due("58 never of the last week", x.never(0), -2);
    x.write(0, 0, -1);
    due("59 ask of week -1", x.ask(0), -2);
    x.row(0, 1, 3);
    due("60 leaves, not two each", x.leaves(0), -2);
    x.row(0, 1, 0);
    due("56 leans of an empty row", x.leans(0), 16);
    due("57 surely of it", x.surely(0), 0);
    due("58 never of it", x.never(0), 0);
    x.row(0, 3, 2);
    x.write(0, 0, 1L << 32);
    due("56 leans of a week far behind", x.leans(0), -2);
    x.row(0, 1, 4);
    x.write(0, 1, 3);
    x.write(0, 2, 1);
    x.write(0, 3, 2);
    due("56 leans of two weeks", x.leans(0), 1);
    due("57 surely of two weeks", x.surely(0), 2);
    due("58 never of two weeks", x.never(0), 13);
    x.town();
    due("56 leans, no town", x.leans(0), -2);
    due("56 leans, no town, nothing", x.leans(1), -2);
  }

  private static void gates() {
    PivotStreet x = Tape.street(FOUR);
    due("61 gate, nothing", x.gate(1), -6);
    due("62 laws, nothing", x.laws(1), -6);
    due("61 gate(4)", x.gate(4), -2);
    due("62 laws(-1)", x.laws(-1), -2);
    x.row(1, 0, 0);
    due("61 gate of an empty row", x.gate(1), 15);
    due("62 laws of it", x.laws(1), 15);
    x.row(1, 0, 4);
    x.write(1, 0, 1);
    x.write(1, 1, 3);
    x.write(1, 2, 2);
    x.write(1, 3, 1);
    due("61 gate", x.gate(1), 1);
    due("62 laws", x.laws(1), 1);
    x.write(1, 3, 0);
    due("61 gate of none", x.gate(1), 0);
    due("62 laws, another: one on each week", x.laws(1), 2);
    x.write(1, 2, 4);
    due("61 gate in the last week", x.gate(1), 0);
    x.write(1, 3, 2);
    due("61 gate in the last week", x.gate(1), 1);
    x.write(1, 2, 5);
    due("61 gate behind it", x.gate(1), -2);
    due("62 laws behind it", x.laws(1), -2);
    x.write(1, 2, 4);
    x.write(1, 3, 4);
    due("61 gate of no place", x.gate(1), -2);
    x.write(1, 3, -1);
    due("62 laws of no place", x.laws(1), -2);
    x.row(1, 0, 1);
    due("61 gate, not two each", x.gate(1), -2);
    x.town();
    due("62 laws, no town", x.laws(1), -2);
  }

  private static void shares() {
    PivotStreet x = Tape.street("town weeks 1 law 0 heavy 4 odds 0;house push 10;house push 10;");
    int[] worths = {0, 2, 2, 5};
    for (int set = 0; set < 4; set++) due("63 worth " + set, x.worth(set), worths[set]);
    due("63 worth(4)", x.worth(4), -2);
    due("63 worth(-1)", x.worth(-1), -2);
    due("64 share above", x.share(0, 0), 5);
    due("64 share below", x.share(1, 1), 2);
    due("64 share(2, 0)", x.share(2, 0), -2);
    due("64 share(0, 2)", x.share(0, 2), -2);
    PivotStreet back = Tape.street("town weeks 1 law 0 heavy 5 odds 0;house push 10;house push 4 leans;");
    due("64 share above, below 0", back.share(1, 0), -1);
    due("64 share below of it", back.share(1, 1), 2);
    PivotStreet none = Tape.street("town weeks 2 law 0 heavy 10 odds 0;house push 10;house push 15 leans;");
    due("63 worth, aside from signs", none.worth(2), 2);
    due("64 share of nothing, above", none.share(0, 0), 0);
    due("64 share of nothing, below", none.share(0, 1), 1);
    none.rest(0, 0);
    due("63 worth, acts hold", none.worth(1), 1);
    due("64 share behind an act", none.share(0, 0), 0);
  }

  private static void games() {
    PivotStreet x = Tape.street("town weeks 1 law 0 heavy 10 odds 0;house push 10;house push 10;place 0 sun 5 smell 0;");
    int[][] first = {{8, 3}, {5, 10}};
    int[][] second = {{-2, 5}, {3, 0}};
    for (int a = 0; a < 2; a++) {
      for (int b = 0; b < 2; b++) {
        due("66 gets(0, 1, " + a + ", " + b + ")", x.gets(0, 1, a, b), first[a][b]);
        due("66 gets(1, 0, " + b + ", " + a + ")", x.gets(1, 0, b, a), second[a][b]);
      }
    }
    due("66 gets, one twice", x.gets(0, 0, 0, 0), -1000);
    due("66 gets(0, 2)", x.gets(0, 2, 0, 0), -1000);
    due("66 gets, no such choice", x.gets(0, 1, 2, 0), -1000);
    due("66 gets, no such choice", x.gets(0, 1, 0, -1), -1000);
    due("65 rests, none", x.rests(0, 1), 0);
    due("65 rests, one twice", x.rests(1, 1), -2);
    due("65 rests(0, 2)", x.rests(0, 2), -2);
    due("65 rests, both", Tape.street(FIRST + "house push 10;house push 10;").rests(0, 1), 8);
    due("65 rests, all", Tape.street(FIRST + "house push 0;house push 0;").rests(0, 1), 15);
    due("65 rests, the other one", Tape.street(FIRST + "house push 0;house push 10;").rests(0, 1), 12);
    due("65 rests, the first one", Tape.street(FIRST + "house push 0;house push 10;").rests(1, 0), 10);
  }

  private static void chances() {
    PivotStreet x = Tape.street(SNOWY);
    long[][][] byWeek = {{{3, 10}, {7, 10}, {0, 1}}, {{9, 100}, {21, 100}, {7, 10}}};
    for (int week = 0; week < 2; week++) {
      for (int place = 0; place < 3; place++) {
        due("67 chance above", x.chance(0, place, week, 0), byWeek[week][place][0]);
        due("67 chance below", x.chance(0, place, week, 1), byWeek[week][place][1]);
      }
    }
    due("67 chance in the last week", x.chance(0, 0, 2, 0), -2);
    due("67 chance(3)", x.chance(3, 0, 0, 0), -2);
    due("67 chance of no place", x.chance(0, 3, 0, 0), -2);
    due("67 chance of no part", x.chance(0, 0, 0, 2), -2);
    due("68 mean above", x.mean(0, 0, 0), 27);
    due("68 mean below", x.mean(0, 0, 1), 10);
    due("68 mean above", x.mean(0, 1, 0), 601);
    due("68 mean below", x.mean(0, 1, 1), 100);
    due("68 mean in the last week", x.mean(0, 2, 0), -2);
    due("68 mean(3)", x.mean(3, 0, 0), -2);
    due("68 mean of no part", x.mean(0, 0, -1), -2);
    String year = "town weeks 20 law 0 heavy 10 odds 1;house push 0;house push 10;house push 0;place 1 sun 0 smell 0;place 0 sun 1 smell 0;";
    PivotStreet far = Tape.street(year);
    due("67 chance of eight snows, above", far.chance(0, 0, 7, 0) > 0 ? 1 : 0, 1);
    due("67 chance beyond 7", far.chance(0, 0, 8, 0), -2);
    due("68 mean beyond 7", far.mean(0, 8, 0), -2);
    PivotStreet never = Tape.street(year.replace("push 10", "push 0"));
    due("68 mean of what is sure, above", never.mean(0, 7, 0), 9);
    due("68 mean of what is sure, below", never.mean(0, 7, 1), 1);
    x.swap(0, 1, 1);
    due("67 chance behind exchanges", x.chance(1, 0, 0, 0), 3);
  }

  private static void acts() {
    PivotStreet x = Tape.street(FIRST + "house push 10;house push 0;house push 0;");
    due("69 the place in the last week", x.at(0, 4), 1);
    due("69 rest", x.rest(0, 1), 0);
    due("69 it pushes nothing then", x.pushes(0, 1), 0);
    due("69 the others as they did", x.turn(0), 1);
    due("69 rest of another", x.rest(2, 1), 2);
    due("69 rest(3, 0)", x.rest(3, 0), -2);
    due("69 rest(0, 4)", x.rest(0, 4), -2);
    due("69 rest(0, -1)", x.rest(0, -1), -2);
    due("71 undo", x.undo(), 1);
    due("71 undo", x.undo(), 0);
    due("71 undo of none", x.undo(), -5);
    due("71 as it was", x.at(0, 4), 1);
    due("72 anew of none", x.anew(), 0);
    for (int i = 0; i < 30; i++) due("69 rest " + i, x.rest(1, i % 4), 2);
    due("69 rest beyond 30", x.rest(1, 0), -5);
    due("69 rest of none beyond 30", x.rest(3, 0), -2);
    due("70 swap beyond 30", x.swap(0, 1, 0), -5);
    due("70 swap of one twice beyond 30", x.swap(1, 1, 0), -2);
    due("72 anew", x.anew(), 30);
    due("72 acts", x.count(8), 0);
    x.town();
    due("69 no town", x.rest(0, 0), -2);
    due("70 no town", x.swap(0, 1, 0), -2);
    due("71 no town", x.undo(), -2);
    due("72 no town", x.anew(), -2);
  }

  private static void exchanges() {
    PivotStreet x = Tape.street(FIRST + "house push 10;house push 0;house push 0;");
    due("70 swap", x.swap(0, 2, 1), 0);
    int[][] at = {{0, 1, 2}, {0, 2, 1}, {1, 0, 2}, {2, 1, 0}, {0, 2, 1}};
    for (int week = 0; week <= 4; week++) {
      for (int h = 0; h < 3; h++) due("10 at behind an exchange", x.at(h, week), at[week][h]);
    }
    due("24 home behind it", x.home(), NONE);
    due("39 last behind it", x.last(0), 4);
    due("40 same behind it", x.same(1), 1);
    due("70 swap again, as given", x.swap(0, 1, 1), 2);
    due("10 both were exchanged in turn", x.at(2, 1), 1);
    due("10 both were exchanged in turn", x.at(1, 1), 0);
    due("70 swap of one twice", x.swap(1, 1, 0), -2);
    due("70 swap(0, 3)", x.swap(0, 3, 0), -2);
    due("70 swap in the last week", x.swap(0, 1, 4), -2);
    x.anew();
    due("70 swap in week 0", x.swap(0, 1, 0), 2);
    due("10 at week 0 is behind it", x.at(0, 0), 1);
    due("39 its place of week 0 is behind it", x.last(0), 3);
    due("24 home is, too", x.home(), 3);
    due("40 same is, too", x.same(0), 7);
    PivotStreet sunny = Tape.street(FIRST + "house push 0;house push 0;place 1 sun 3 smell 0;");
    due("70 swap at rest", sunny.swap(0, 1, 0), 1);
    due("20 sun of week 0 is, too", sunny.sun(0, 0), 3);
  }

  private static void drawnYears() {
    PivotStreet x = Tape.street("town weeks 10 law 0 heavy 10 odds 5;house push 0;house push 10;house push 0;");
    // The draws from 1: 8 8 3 5 1 7 0 9 2 6.
    due("73 snows from 1", x.drawn(1, 0), 4 + 16 + 64 + 256);
    due("73 snows from -1", x.drawn(-1, 0), -2);
    due("73 snows from the last seed", x.drawn(2000000000, 0) >= 0 ? 1 : 0, 1);
    due("73 snows beyond it", x.drawn(2000000001, 0), -2);
    due("73 no such", x.drawn(1, 3), -2);
    PivotStreet snowy = Tape.street(SNOWY);
    due("73 snows from 0", snowy.drawn(0, 0) & 1, 1);
    due("73 rights without snow", snowy.drawn(1, 2), 1);
    due("73 rights with snow", snowy.drawn(0, 2), 0);
    // Without snow in week 0 all go two on: suns 1 + 2 + 4 each.
    due("73 span", snowy.drawn(1, 1), 0);
    due("74 luck", snowy.luck(0, 3, 0), 2);
    due("74 luck of one", snowy.luck(0, 1, 0), 0);
    due("74 luck of none", snowy.luck(0, 0, 0), -2);
    due("74 luck of 21", snowy.luck(0, 21, 0), -2);
    due("74 luck of no letter", snowy.luck(0, 1, 1), -2);
    due("74 luck from -1", snowy.luck(-1, 1, 0), -2);
    due("74 the year as told stays", snowy.right(0), 0);
  }

  private static void rates() {
    PivotStreet x = Tape.street(FIRST + "house push 10;house push 0;house push 0;");
    due("75 rate", x.rate(0, 40), 10);
    due("75 push now", x.house(0, 0), 40);
    due("75 force now", x.force(0), 40);
    due("75 rate again", x.rate(0, 0), 40);
    due("75 rate(0, 41)", x.rate(0, 41), -2);
    due("75 rate(0, -1)", x.rate(0, -1), -2);
    due("75 rate(3, 0)", x.rate(3, 0), -2);
    x.rest(1, 0);
    due("75 with acts", x.rate(0, 5), -5);
    due("75 -2 is asked ahead", x.rate(3, 5), -2);
    due("75 it stays", x.house(0, 0), 0);
    x.undo();
    due("75 without acts", x.rate(0, 5), 0);
  }

  private static void counts() {
    PivotStreet x = Tape.street(FOUR.replace("law 0", "law 3"));
    x.rest(0, 0);
    x.row(2, 0, 0);
    x.feed(0, 0, 0, 0, 0);
    int[] counts = {4, 3, 10, 5, 4, 6, 2, 5, 1, 18, 20, 1};
    for (int what = 0; what < counts.length; what++) due("76 count " + what, x.count(what), counts[what]);
    due("76 count(12)", x.count(12), NONE);
    due("76 count(-1)", x.count(-1), NONE);
  }

  private static void images() {
    PivotStreet x = Tape.street(FOUR);
    due("78 back, nothing", x.back(0), -6);
    due("77 image(3)", x.image(3), -2);
    due("77 image(-1)", x.image(-1), -2);
    due("78 back(3)", x.back(3), -2);
    due("78 back(-1)", x.back(-1), -2);
    x.swap(0, 2, 1);
    int at = x.at(0, 3);
    due("77 image", x.image(0), 0);
    x.anew();
    x.rate(0, 1);
    due("77 another image", x.image(2), 0);
    Tape.town(x, BARE);
    x.row(0, 0, 1);
    x.feed(0, 0, 0, 0, 0);
    due("78 back", x.back(0), 0);
    due("78 acts", x.count(8), 1);
    due("78 places", x.at(0, 3), at);
    due("78 push", x.house(0, 0), 20);
    due("78 letters", x.letter(4, 2), 9);
    due("78 lines", x.count(9), 18);
    due("78 the slots stay", x.count(11), 1);
    due("78 the tape stays", x.count(10), 20);
    x.undo();
    due("78 the image stays as it was", x.back(0), 0);
    due("78 acts again", x.count(8), 1);
    due("78 back to another", x.back(2), 0);
    due("78 push of another", x.house(0, 0), 1);
    due("78 image 1 has nothing", x.back(1), -6);
    x.end(0);
    x.town();
    due("77 image of no town", x.image(1), 0);
    x.back(0);
    due("78 back to no town", x.back(1), 0);
    due("78 no town", x.span(), -2);
  }

  private static void rows() {
    PivotStreet x = Tape.street(FOUR);
    due("80 write, nothing", x.write(0, 0, 1), -6);
    due("80 write(4)", x.write(4, 0, 1), -2);
    due("79 row(4)", x.row(4, 0, 1), -2);
    due("79 row(-1)", x.row(-1, 0, -1), -2);
    due("79 width 4", x.row(0, 4, 1), -2);
    due("79 width -1", x.row(0, -1, -1), -2);
    due("79 n 61", x.row(0, 0, 61), -2);
    due("79 n -1", x.row(0, 0, -1), -3);
    due("79 the slot stays", x.count(11), 0);
    due("79 n 60", x.row(0, 0, 60), 0);
    due("80 write 59", x.write(0, 59, 1), 0);
    due("80 write 60", x.write(0, 60, 1), -7);
    due("80 write -1", x.write(0, -1, 1), -7);
    due("79 n -1 again", x.row(0, 0, -1), -3);
    due("79 the row stays", x.write(0, 59, 1), 0);
    long[] values = {256 + 3, 65536 + 3, (1L << 32) + 3, (1L << 32) + 3};
    for (int width = 0; width < 4; width++) {
      x.row(0, width, 2);
      due("79 all 0 again", x.gate(0), 1);
      x.write(0, 1, values[width]);
      due("80 cut to width " + width, x.gate(0), width < 3 ? 8 : -2);
      x.write(0, 1, -1);
      due("80 below 0 in width " + width, x.gate(0), -2);
    }
    pastes();
  }

  private static void pastes() {
    PivotStreet x = Tape.street(FOUR);
    x.row(0, 1, 4);
    x.write(0, 1, 3);
    x.write(0, 2, 1);
    due("81 nothing there", x.paste(0, 0, 1, 0, 1), -6);
    due("81 nothing here", x.paste(1, 0, 0, 0, 1), -6);
    due("81 no such slot", x.paste(0, 0, 4, 0, 1), -2);
    due("81 no such slot", x.paste(-1, 0, 1, 0, 1), -2);
    x.row(1, 2, 4);
    due("81 of another width", x.paste(0, 0, 1, 0, 5), -8);
    x.row(1, 1, 2);
    due("81 beyond there", x.paste(0, 0, 1, 0, 3), -7);
    due("81 beyond there", x.paste(0, 0, 1, 1, 2), -7);
    due("81 beyond here", x.paste(0, 3, 1, 0, 2), -7);
    due("81 n below 0", x.paste(0, 0, 1, 0, -1), -7);
    due("81 i below 0", x.paste(0, -1, 1, 0, 1), -7);
    due("81 k below 0", x.paste(0, 0, 1, -1, 1), -7);
    due("81 far beyond", x.paste(0, 1, 1, 1, Integer.MAX_VALUE), -7);
    due("81 far beyond", x.paste(0, Integer.MAX_VALUE, 1, 0, 1), -7);
    due("81 nothing has happened", x.leans(1), 0);
    due("81 none", x.paste(0, 4, 1, 2, 0), 0);
    due("81 two", x.paste(0, 0, 1, 0, 2), 0);
    due("81 two came", x.leans(1), 3);
    // 0 3 1 0 becomes 0 0 3 1: week 0 without turn, week 3 with 1.
    due("81 over itself, on", x.paste(0, 0, 0, 1, 3), 0);
    x.row(2, 1, 2);
    x.paste(0, 2, 2, 0, 2);
    due("81 as they were, on", x.gate(2), 1);
    due("81 over itself, back", x.paste(0, 1, 0, 0, 3), 0);
    x.paste(0, 1, 2, 0, 2);
    due("81 as they were, back", x.gate(2), 1);
  }

  private static void townWithoutHouses() {
    PivotStreet x = Tape.street(BARE);
    due("13 force", x.force(0), 0);
    due("14 turn", x.turn(1), 0);
    due("14 turn by the rest", Tape.street(BARE.replace("law 0", "law 2")).turn(0), 0);
    due("15 stands", x.stands(2), 0);
    due("16 jerk", x.jerk(), 0);
    due("17 still", x.still(), 3);
    due("18 strongest", x.strongest(0), NONE);
    due("21 brown", x.brown(), NONE);
    due("22 pale", x.pale(), NONE);
    due("23 span", x.span(), 0);
    due("24 home", x.home(), 1);
    due("30 idle", x.idle(1), 0);
    due("31 backs", x.backs(), 0);
    due("33 all", x.all(1), 0);
    due("34 noon", x.noon(2), NONE);
    due("40 same", x.same(1), 0);
    due("42 gold", x.gold(), 0);
    due("45 rights", x.rights(), 0);
    due("47 stay", x.stay(0, 0), 0);
    due("48 stays", x.stays(0, 1), NONE);
    due("49 moves", x.moves(0), 1);
    due("50 fair", x.fair(), 1);
    due("51 post", x.post(), 1);
    due("52 by", x.by(2), 0);
    due("53 law", x.law(), 0);
    due("54 trade", x.trade(), NONE);
    due("55 trades", x.trades(), 0);
    due("63 worth", x.worth(0), 0);
    due("63 worth(1)", x.worth(1), -2);
    due("73 drawn", x.drawn(5, 1), 0);
    x.row(0, 0, 0);
    due("56 leans", x.leans(0), 1);
    due("57 surely", x.surely(0), 0);
    due("58 never", x.never(0), 0);
    due("59 ask", x.ask(0), NONE);
    due("60 leaves", x.leaves(0), 1);
    due("61 gate", x.gate(0), 0);
    due("62 laws", x.laws(0), 0);
  }

  private static void oneHouse() {
    PivotStreet x = Tape.street(FIRST + "house push 30;snow at 0;");
    due("12 snow at the first and last place", x.pushes(0, 0), 30);
    due("18 strongest, none", Tape.street(FIRST + "house push 0;").strongest(0), NONE);
    due("10 at", x.at(0, 4), 0);
    due("35 mates, it, too", x.mates(0, 0), 1);
    due("36 view", x.view(0, 0), 0);
    due("24 home", x.home(), 1);
    due("64 share", x.share(0, 0), 12);
    due("64 share below", x.share(0, 1), 1);
  }
}
