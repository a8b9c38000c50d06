/** The edges of what is done: promises 69 to 81, sentence by sentence. */
public final class ChangeEdgeTest {
  private static final int NONE = PivotStreet.NONE;
  private static final PivotStreet NO_TOWN = new PivotStreet();

  public static void main(String[] args) {
    rest();
    swap();
    fullOfActs();
    undo();
    anew();
    drawnSnows();
    drawnYears();
    drawnOutside();
    luck();
    rate();
    count();
    imageOutside();
    imageKeeps();
    imageOfFullTown();
    imageOfNoTown();
    rowEdges();
    rowStays();
    writeEdges();
    writeCut();
    pasteRefused();
    pasteSpans();
    pasteOverItself();
    Due.finish();
  }

  private static PivotStreet ring(int houses, int weeks) {
    return Tape.street(Texts.ring(houses, weeks));
  }

  private static PivotStreet bare() {
    return Tape.street(Texts.town(4, 0, 10, 5));
  }

  // Promise 69: "its PLACE in the last WEEK then. -2: there are none such".
  private static void rest() {
    PivotStreet x = ring(3, 4);
    String before = State.of(x);
    Due.outside("69 no such house", 0, 2, h -> x.rest(h, 0), -2);
    Due.outside("69 no such week", 0, 3, w -> x.rest(0, w), -2);
    Due.is("69 the last week", x.rest(0, 4), -2);
    Due.is("69 nothing was done", State.of(x), before);
    Due.is("69 in week 0: one less", x.rest(0, 0), 0);
    Due.is("69 in the week ahead of the last: two less", x.rest(0, 3), 2);
    Due.is("69 once more in it", x.rest(0, 3), 2);
    Due.is("69 another one that does not push", x.rest(2, 1), 1);
    Due.is("69 they are acts, all of them", x.count(8), 4);
    Due.is("69 one house", ring(1, 1).rest(0, 0), 0);
    Due.is("69 without houses", bare().rest(0, 0), -2);
    Due.is("69 no town", NO_TOWN.rest(0, 0), -2);
  }

  // Promise 70: "the PLACE of the first one in the last WEEK then. -2 (one twice, too)".
  private static void swap() {
    PivotStreet x = ring(3, 4);
    String before = State.of(x);
    Due.outside("70 no such house", 0, 2, h -> x.swap(h, 1, 0), -2);
    Due.outside("70 no such other one", 0, 2, h -> x.swap(1, h, 0), -2);
    Due.outside("70 none such, twice", 0, 2, h -> x.swap(h, h, 0), -2);
    Due.outside("70 no such week", 0, 3, w -> x.swap(0, 1, w), -2);
    Due.each("70 one twice", h -> x.swap(h, h, 0), 0, -2, -2, -2);
    Due.is("70 the last week", x.swap(0, 1, 4), -2);
    Due.is("70 nothing was done", State.of(x), before);
    Due.is("70 of the first one", x.swap(0, 1, 0), 2);
    Due.is("70 exchanged back, of the first one", x.swap(1, 0, 0), 2);
    Due.is("70 in the week ahead of the last", x.swap(2, 0, 3), 1);
    Due.each("70 the other one", h -> x.at(h, 4), 0, 0, 2, 1);
    Due.is("70 they are acts", x.count(8), 3);
    Due.is("70 one house", ring(1, 1).swap(0, 0, 0), -2);
    Due.is("70 without houses", bare().swap(0, 1, 0), -2);
    Due.is("70 no town", NO_TOWN.swap(0, 1, 0), -2);
  }

  // Promises 69 and 70: "-5: there were 30 acts." Terms I: "-2 is asked ahead of -5".
  private static void fullOfActs() {
    PivotStreet x = ring(3, 4);
    for (int i = 0; i < 30; i++) {
      Due.is("69 act " + i, i % 2 == 0 ? x.rest(1, 0) : x.rest(2, 3), i % 2 == 0 ? 2 : 0);
      Due.is("76 acts", x.count(8), i + 1);
    }
    String full = State.of(x);
    Due.is("69 the 31st", x.rest(0, 0), -5);
    Due.is("70 the 31st", x.swap(0, 1, 0), -5);
    Due.is("69 -2 ahead of -5, house", x.rest(3, 0), -2);
    Due.is("69 -2 ahead of -5, week", x.rest(0, 4), -2);
    Due.is("70 -2 ahead of -5, house", x.swap(0, 3, 0), -2);
    Due.is("70 -2 ahead of -5, one twice", x.swap(0, 0, 0), -2);
    Due.is("70 -2 ahead of -5, week", x.swap(0, 1, -1), -2);
    Due.is("69 nothing was done", State.of(x), full);
    Due.is("71 one is taken back", x.undo(), 29);
    Due.is("70 there is room for one", x.swap(0, 1, 3), 2);
    Due.is("70 and no more", x.swap(0, 1, 3), -5);
    Due.is("72 all of 30", x.anew(), 30);
    Due.is("69 there is room again", x.rest(0, 0), 0);
  }

  // Promise 71: "how many there are. -2: there is no TOWN; -5: there is none."
  private static void undo() {
    PivotStreet x = ring(3, 4);
    String none = State.of(x);
    Due.is("71 there is none", x.undo(), -5);
    Due.is("71 nothing happens", State.of(x), none);
    x.swap(0, 1, 1);
    String one = State.of(x);
    x.rest(0, 2);
    String two = State.of(x);
    x.swap(1, 2, 1);
    Due.is("71 the latest", x.undo(), 2);
    Due.is("71 as it was with two", State.of(x), two);
    Due.is("71 the latest", x.undo(), 1);
    Due.is("71 as it was with one", State.of(x), one);
    Due.is("71 the latest", x.undo(), 0);
    Due.is("71 as it was with none", State.of(x), none);
    Due.is("71 there is none left", x.undo(), -5);
    Due.is("71 without houses", bare().undo(), -5);
    Due.is("71 no town", NO_TOWN.undo(), -2);
  }

  // Promise 72: "how many there were. -2 likewise."
  private static void anew() {
    PivotStreet x = ring(3, 4);
    String none = State.of(x);
    Due.is("72 there were none", x.anew(), 0);
    x.swap(0, 1, 1);
    x.rest(0, 2);
    Due.is("72 there were two", x.anew(), 2);
    Due.is("72 as it was", State.of(x), none);
    Due.is("71 none is left", x.undo(), -5);
    Due.is("72 there were none", x.anew(), 0);
    Due.is("72 without houses", bare().anew(), 0);
    Due.is("72 no town", NO_TOWN.anew(), -2);
  }

  private static int snowsFrom(int seed, int weeks, int odds) {
    return Tape.street(Texts.town(weeks, 0, 10, odds) + Texts.snow(0, 1)).drawn(seed, 0);
  }

  // Terms IX: "WEEK by WEEK ahead of the last a draw: below odds there is SNOW".
  private static void drawnSnows() {
    // From 0: 0 8 8 7 8 7 5 1 2 0 1 2 9 8 7 5 8 3 2 1. From 2,000,000,000: 4 3 1 7 6 2 7 7 5 4 7 0 4 8 1 3 5 7 9 1.
    int[] odds = {1, 5, 9};
    int[] fromZero = {513, 921473, 1044479};
    int[] fromLast = {2048, 580135, 786431};
    int[] fromOne = {8256, 176468, 981887};
    for (int i = 0; i < 3; i++) {
      Due.is("73 from 0, odds " + odds[i], snowsFrom(0, 20, odds[i]), fromZero[i]);
      Due.is("73 from the last seed, odds " + odds[i], snowsFrom(2000000000, 20, odds[i]), fromLast[i]);
      Due.is("73 from 1, odds " + odds[i], snowsFrom(1, 20, odds[i]), fromOne[i]);
      for (int weeks = 1; weeks < 20; weeks++) {
        Due.is("73 ahead of the last of " + weeks, snowsFrom(0, weeks, odds[i]), fromZero[i] & (1 << weeks) - 1);
      }
    }
    Due.is("73 odds 0", snowsFrom(0, 20, 0), 0);
    Due.is("73 odds 10", snowsFrom(0, 20, 10), (1 << 20) - 1);
    Due.is("73 odds 4, a draw of 4", snowsFrom(2000000000, 1, 4), 0);
    Due.is("73 odds 5, a draw of 4", snowsFrom(2000000000, 1, 5), 1);
    Due.is("73 odds 8, a draw of 8", snowsFrom(1, 1, 8), 0);
    Due.is("73 odds 9, a draw of 8", snowsFrom(1, 1, 9), 1);
  }

  /** House 1 goes one on unless there is snow: then it does not push. */
  private static String walker(int weeks, int odds) {
    return Texts.town(weeks, 0, 10, odds) + Texts.house(0, 10, 0) + Texts.place(2, 7, 0) + Texts.snow(0);
  }

  // Promise 73: "1: SPAN, 2: LETTERS that are right, as bits"; IX: "in place of those told".
  private static void drawnYears() {
    PivotStreet x = Tape.street(walker(1, 5) + Texts.letter(1, 1, 1) + Texts.letter(1, 2, 1) + Texts.letter(1, 1, 2) + Texts.letter(1, 3, 0));
    Due.is("73 snow drawn", x.drawn(0, 0), 1);
    Due.is("73 snow drawn: 0, 0 and 14", x.drawn(0, 1), 14);
    Due.is("73 snow drawn, letters", x.drawn(0, 2), 1);
    Due.is("73 no snow drawn", x.drawn(1, 0), 0);
    Due.is("73 no snow drawn: 0, 7 and 7", x.drawn(1, 1), 7);
    Due.is("73 no snow drawn, letters", x.drawn(1, 2), 2);
    Due.is("73 the year stays as told", x.snows(), 1);
    Due.is("73 so do its letters", x.rights(), 1);
    PivotStreet all = Tape.street(walker(1, 5) + "letter 1 to 1 at 1;".repeat(8));
    Due.is("73 all of eight letters", all.drawn(0, 2), 255);
    all.swap(1, 0, 0);
    Due.is("73 acts hold: at 0 it pushes in snow, too", all.drawn(0, 2), 255);
    all.rest(1, 0);
    Due.is("73 acts hold: it stays in at 0", all.drawn(0, 2), 0);
    String many = Texts.town(12, 0, 10, 0) + Texts.house(10, 0, 0) + Texts.letter(0, 1, 10) + Texts.letter(2, 2, 12);
    Due.is("73 more weeks than houses", Tape.street(many).drawn(5, 2), 3);
    Due.is("74 more weeks than houses", Tape.street(many).luck(5, 20, 0), 20);
    Due.is("74 in the last of them", Tape.street(many).luck(5, 20, 1), 20);
  }

  // Promise 73: "a seed (0 .. 2,000,000,000)"; "-2: there are none such, no TOWN."
  private static void drawnOutside() {
    PivotStreet x = Tape.street(walker(4, 5));
    for (int what = 0; what < 3; what++) {
      int kind = what;
      Due.outside("73 no such seed", 0, 2000000000, seed -> x.drawn(seed, kind), -2);
      Due.is("73 the last seed", x.drawn(2000000000, what) >= 0 ? 1 : 0, 1);
      Due.is("73 no town", NO_TOWN.drawn(0, what), -2);
    }
    Due.outside("73 no such what", 0, 2, what -> x.drawn(0, what), -2);
    PivotStreet longest = Tape.street(Texts.ring(2, 20).replace("odds 5", "odds 10") + Texts.place(0, 1, 0) + Texts.letter(1, 0, 19));
    Due.is("73 twenty weeks, span: 11 and 10", longest.drawn(0, 1), 1);
    Due.is("73 twenty weeks, letters", longest.drawn(0, 2), 1);
    Due.is("74 twenty weeks", longest.luck(0, 20, 0), 20);
    PivotStreet none = bare();
    Due.is("73 without houses, snows", none.drawn(0, 0), 1);
    Due.is("73 without houses, span", none.drawn(0, 1), 0);
    Due.is("73 without houses, letters", none.drawn(0, 2), 0);
  }

  // Promise 74: "Of n (1 .. 20) such from seeds, the seed and 1, .."; "-2: there are none such."
  private static void luck() {
    // First draws below 5 from 0 on: 0 and 7 to 14; from 2,000,000,000 on: all but 5 and 7 to 12.
    PivotStreet x = Tape.street(walker(1, 5) + Texts.letter(1, 1, 1) + Texts.letter(1, 2, 1) + Texts.letter(1, 2, 2));
    int[] snowy = {1, 1, 1, 1, 1, 1, 1, 2, 3, 4, 5, 6, 7, 8, 9, 9, 9, 9, 9, 9};
    for (int n = 1; n <= 20; n++) {
      Due.is("74 by snow, of " + n, x.luck(0, n, 0), snowy[n - 1]);
      Due.is("74 without snow, of " + n, x.luck(0, n, 1), n - snowy[n - 1]);
      Due.is("74 no such week, of " + n, x.luck(0, n, 2), 0);
    }
    Due.is("74 from the last seed", x.luck(2000000000, 1, 0), 1);
    Due.is("74 from the last seed on", x.luck(2000000000, 20, 0), 13);
    Due.outside("74 n", 1, 20, n -> x.luck(0, n, 0), -2);
    Due.outside("74 no such seed", 0, 2000000000, seed -> x.luck(seed, 1, 0), -2);
    Due.outside("74 no such letter", 0, 2, letter -> x.luck(0, 1, letter), -2);
    Due.is("74 no letters", ring(3, 4).luck(0, 1, 0), -2);
    Due.is("74 without houses", bare().luck(0, 1, 0), -2);
    Due.is("74 no town", NO_TOWN.luck(0, 1, 0), -2);
  }

  // Promise 75: "n (0 .. 40)"; "-2: there are none such; -5: there are acts that are not taken back."
  private static void rate() {
    PivotStreet x = ring(3, 4);
    String before = State.of(x);
    Due.outside("75 n", 0, 40, n -> x.rate(0, n), -2);
    Due.outside("75 no such house", 0, 2, h -> x.rate(h, 5), -2);
    Due.is("75 nothing happens", State.of(x), before);
    x.rest(1, 0);
    String acted = State.of(x);
    Due.is("75 there is an act", x.rate(0, 5), -5);
    Due.outside("75 -2 ahead of -5, n", 0, 40, n -> x.rate(0, n), -2);
    Due.outside("75 -2 ahead of -5, house", 0, 2, h -> x.rate(h, 5), -2);
    Due.is("75 nothing happens with acts", State.of(x), acted);
    x.undo();
    Due.is("75 it is taken back", x.rate(0, 40), 10);
    Due.is("75 the most", x.force(0), 40);
    Due.is("75 what it was", x.rate(0, 0), 40);
    Due.is("75 the least", x.force(0), 0);
    Due.is("75 what it was", x.rate(0, 10), 0);
    Due.is("75 all is as it was", State.of(x), before);
    Due.is("75 another one", x.rate(2, 40), 0);
    Due.is("75 from now on, in the last week, too", x.at(0, 4), 2);
    Due.is("75 without houses", bare().rate(0, 5), -2);
    Due.is("75 no town", NO_TOWN.rate(0, 5), -2);
  }

  // Promise 76: "NONE for others."
  private static void count() {
    PivotStreet x = Tape.street(Texts.town(20, 3, 30, 10) + Texts.house(1, 2) + Texts.place(0, 1, 1) + Texts.place(0, 1, 1) + Texts.place(7, 1, 1) + Texts.snow(0, 0, 19, 3) + Texts.letter(1, 1, 1));
    x.rest(0, 0);
    x.rest(0, 0);
    x.feed(0, 0, 0, 0, 0);
    for (int slot = 0; slot < 4; slot++) {
      Due.is("76 slots that have a row", x.count(11), slot);
      x.row(slot, slot, 0);
    }
    Due.each("76 count", x::count, -1, NONE, 20, 3, 30, 10, 2, 3, 4, 1, 2, 11, 20, 4, NONE);
    Due.outside("76 others", 0, 11, x::count, NONE);
    Due.outside("76 others without a town", 0, 11, NO_TOWN::count, NONE);
    Due.each("76 without a town", NO_TOWN::count, 0, 0, 0, 0, 0, 0, 0, 0, 0, 0, 0, 0, 0);
    Due.each("76 the least", Tape.street(Texts.town(1, 0, 1, 0))::count, 0, 1, 0, 1, 0, 0, 0, 0, 0, 0, 1, 0, 0);
  }

  // Promises 77 and 78: "-2: no such k; -6: it has nothing."
  private static void imageOutside() {
    PivotStreet x = ring(3, 4);
    String before = State.of(x);
    Due.outside("77 no such k", 0, 2, x::image, -2);
    Due.outside("78 no such k", 0, 2, x::back, -2);
    Due.each("78 nothing", x::back, -1, -2, -6, -6, -6, -2);
    Due.is("78 nothing happens", State.of(x), before);
    Due.is("77 the last k", x.image(2), 0);
    Due.each("78 the others have nothing", x::back, -1, -2, -6, -6, 0, -2);
    Due.is("77 the first k", x.image(0), 0);
    Due.each("78 the one between", x::back, -1, -2, 0, -6, 0, -2);
    Due.is("78 all is as it was", State.of(x), before);
  }

  // Promise 77: "keeps the TOWN, and acts".
  private static void imageKeeps() {
    PivotStreet x = Tape.street(Texts.ring(3, 4) + Texts.place(1, 5, 1) + Texts.snow(2) + Texts.letter(1, 2, 3));
    x.rate(2, 7);
    x.swap(0, 2, 1);
    x.rest(1, 3);
    String first = State.of(x);
    x.image(0);
    x.image(1);
    x.anew();
    x.rate(2, 9);
    String second = State.of(x);
    x.image(2);
    Tape.town(x, Texts.standing(2, 5) + Texts.letter(1, 7, 7));
    String third = State.of(x);
    x.image(1);
    for (int round = 0; round < 2; round++) {
      Due.is("78 back to the first", x.back(0), 0);
      Due.is("78 it is as it was", State.of(x), first);
      Due.is("71 its acts can be taken back", x.undo(), 1);
      Due.is("72 all of them", x.anew(), 1);
      Due.is("75 push as it was then", x.rate(2, 1), 7);
    }
    Due.is("78 back to the one with no acts", x.back(2), 0);
    Due.is("78 it is as it was", State.of(x), second);
    Due.is("78 back to the one in place of another", x.back(1), 0);
    Due.is("78 it is as it was", State.of(x), third);
    Due.is("5 fault() is of the latest town()", x.fault(0), 0);
    Tape.town(x, "x");
    x.back(0);
    Due.is("5 fault() is still of the latest town()", x.fault(0), 1);
    Tape.put(x, "town");
    x.row(3, 2, 5);
    x.back(2);
    Due.is("77 the tape is not kept", x.count(10), 4);
    Due.is("77 slots are not kept", x.count(11), 1);
  }

  private static PivotStreet fullTown() {
    StringBuilder text = new StringBuilder(Texts.town(20, 3, 9, 7));
    for (int h = 0; h < 8; h++) text.append(h % 3 == 0 ? Texts.lean(40 - h) : Texts.house(30 + h));
    for (int p = 0; p < 8; p++) text.append(Texts.place(p, 20 - p, p + 1));
    text.append(Texts.snow(19, 3, 11, 0));
    for (int l = 0; l < 8; l++) text.append(Texts.letter((l + 3) % 8, l, 19 - l));
    PivotStreet x = Tape.street(text.toString());
    for (int i = 0; i < 30; i++) {
      if (i % 2 == 0) x.swap(i % 8, (i + 3) % 8, i % 20);
      else x.rest(i % 8, 19 - i % 20);
    }
    return x;
  }

  private static void imageOfFullTown() {
    String full = State.of(fullTown());
    PivotStreet x = fullTown();
    x.image(0);
    Tape.town(x, Texts.standing(3, 5));
    String small = State.of(x);
    x.image(1);
    Due.is("78 back to the full one", x.back(0), 0);
    Due.is("78 it is as it was", State.of(x), full);
    Due.is("78 back to the small one", x.back(1), 0);
    Due.is("78 it is as it was", State.of(x), small);
    PivotStreet y = fullTown();
    y.image(2);
    Tape.town(y, Texts.standing(3, 5));
    y.back(2);
    Due.is("69 it is full of acts", y.rest(0, 0), -5);
    Due.is("71 the latest act", y.undo(), 29);
    Due.is("69 the latest act again", y.rest(5, 10) >= 0 ? 1 : 0, 1);
    Due.is("78 it is as it was with 30", State.of(y), full);
  }

  private static void imageOfNoTown() {
    PivotStreet x = new PivotStreet();
    String none = State.of(x);
    Due.is("77 image of no town", x.image(1), 0);
    Tape.town(x, Texts.ring(3, 4));
    x.rest(0, 0);
    Due.is("78 back to no town", x.back(1), 0);
    Due.is("78 there is none then", State.of(x), none);
    Due.is("71 no town, no acts", x.undo(), -2);
    Due.is("78 the others have nothing", x.back(0), -6);
  }

  // Promise 79: "-2: there is no such SLOT or WIDTH (0 .. 3), or n is above 60; -3, and the SLOT stays: n is below 0."
  private static void rowEdges() {
    PivotStreet x = new PivotStreet();
    Due.outside("79 no such slot", 0, 3, slot -> x.row(slot, 0, 1), -2);
    Due.outside("79 no such width", 0, 3, width -> x.row(0, width, 1), -2);
    Due.outside("79 no such slot, n below 0", 0, 3, slot -> x.row(slot, 0, -1), -2);
    Due.outside("79 no such width, n below 0", 0, 3, width -> x.row(0, width, -1), -2);
    Due.each("79 n above 60", n -> x.row(0, 0, n), 61, -2, -2, -2);
    Due.is("79 n far above 60", x.row(0, 0, Integer.MAX_VALUE), -2);
    Due.is("79 n below 0", x.row(0, 0, -1), -3);
    Due.is("79 n far below 0", x.row(0, 0, Integer.MIN_VALUE), -3);
    Due.is("79 no row came of it", x.count(11), 0);
    for (int slot = 0; slot < 4; slot++) {
      for (int width = 0; width < 4; width++) {
        Due.is("79 n 60", x.row(slot, width, 60), 0);
        Due.is("80 its last number", x.write(slot, 59, 1), 0);
        Due.is("80 none behind it", x.write(slot, 60, 1), -7);
        Due.is("79 n 1", x.row(slot, width, 1), 0);
        Due.is("80 its only number", x.write(slot, 0, 1), 0);
        Due.is("80 none behind it", x.write(slot, 1, 1), -7);
        Due.is("79 n 0", x.row(slot, width, 0), 0);
        Due.is("80 it has none", x.write(slot, 0, 1), -7);
      }
    }
    Due.is("79 a row of 0 is a row", x.count(11), 4);
  }

  // Promise 79: "all 0 (in place of another one)"; "and the SLOT stays".
  private static void rowStays() {
    PivotStreet x = ring(3, 4);
    x.row(2, 1, 4);
    x.write(2, 0, 1);
    x.write(2, 1, 1);
    x.write(2, 3, 2);
    Due.is("61 2 is where house 0 was not in week 0", x.gate(2), 0);
    x.write(2, 3, 0);
    Due.is("61 0 is", x.gate(2), 1);
    for (int n : new int[] {-1, Integer.MIN_VALUE, 61, Integer.MAX_VALUE}) {
      Due.is("79 refused", x.row(2, 0, n), n < 0 ? -3 : -2);
      Due.is("79 the slot stays, numbers", x.gate(2), 1);
      Due.is("79 the slot stays, how many", x.write(2, 4, 0), -7);
      x.row(3, 1, 1);
      Due.is("79 the slot stays, width", x.paste(3, 0, 2, 3, 1), 0);
    }
    x.row(2, 4, 1);
    Due.is("79 no such width, the slot stays", x.gate(2), 1);
    Due.is("79 in place of another one", x.row(2, 1, 4), 0);
    x.write(2, 0, 3);
    x.write(2, 2, 3);
    Due.is("79 all 0", x.gate(2), 1);
    Due.is("79 another slot stays", x.write(3, 0, 0), 0);
    Due.is("79 another slot has nothing still", x.write(1, 0, 0), -6);
  }

  // Promise 80: "-2: there is no such SLOT; -6: it has nothing; -7: there is no such number."
  private static void writeEdges() {
    PivotStreet x = ring(3, 4);
    Due.outside("80 no such slot", 0, 3, slot -> x.write(slot, 0, 0), -2);
    Due.each("80 nothing", slot -> x.write(slot, 0, 0), 0, -6, -6, -6, -6);
    Due.outside("80 -6 is asked ahead of -7", 0, 59, i -> x.write(0, i, 0), -6);
    x.row(0, 0, 2);
    Due.outside("80 no such number", 0, 1, i -> x.write(0, i, 1), -7);
    Due.is("80 nothing happens", x.gate(0), 1);
    Due.is("80 the first number", x.write(0, 0, 1), 0);
    Due.is("80 it is another week", x.gate(0), 4);
    Due.is("80 the last number", x.write(0, 1, 1), 0);
    Due.is("80 it is another place", x.gate(0), 1);
    Due.is("80 without a town", NO_TOWN.write(0, 0, 0), -6);
  }

  // Promise 80: "v, cut to its WIDTH".
  private static void writeCut() {
    PivotStreet x = Tape.street(Texts.backwards(3, 4).replace("push 10", "push 40").replace("heavy 10", "heavy 1"));
    long[] cut = {1L << 8, 1L << 16, 1L << 32};
    for (int width = 0; width < 4; width++) {
      x.row(0, width, 2);
      x.write(0, 1, -40);
      Due.is("80 below 0 in width " + width, x.leans(0), 4);
      for (int wide = 0; wide < 3; wide++) {
        long more = cut[wide];
        x.write(0, 1, more - 40);
        Due.is("80 round in width " + width + ", " + more, x.leans(0), wide >= width ? 4 : more - 40 <= 400 ? 0 : -2);
        x.write(0, 1, -more - 40);
        Due.is("80 round below 0 in width " + width + ", " + more, x.leans(0), wide >= width ? 4 : -more - 40 >= -400 ? 0 : -2);
        x.write(0, 1, -40);
        x.write(0, 0, more);
        Due.is("80 a week in width " + width + ", " + more, x.leans(0), wide >= width ? 4 : -2);
        x.write(0, 0, 0);
      }
      x.write(0, 1, Long.MIN_VALUE);
      Due.is("80 the least in width " + width, x.leans(0), width < 3 ? 0 : -2);
      x.write(0, 1, Long.MAX_VALUE);
      Due.is("80 the most in width " + width, x.leans(0), width < 3 ? 0 : -2);
      x.write(0, 0, 127);
      Due.is("80 127 is none such", x.leans(0), -2);
      x.write(0, 0, 128);
      Due.is("80 128 is none such", x.leans(0), -2);
    }
    // 200 is -56 in one byte.
    PivotStreet far = Tape.street(Texts.town(1, 0, 1, 0) + "house push 40;".repeat(5));
    far.row(0, 0, 2);
    far.write(0, 1, 200);
    Due.is("80 200 in one byte is not 200", far.leans(0), 0);
    far.row(0, 1, 2);
    far.write(0, 1, 200);
    Due.is("80 200 in two bytes is", far.leans(0), 1);
  }

  // Promise 81: "-2: there is no such SLOT; -6: one has nothing; -8: they are not of one WIDTH; -7 ..."
  private static void pasteRefused() {
    PivotStreet x = ring(3, 4);
    Due.outside("81 no such slot", 0, 3, slot -> x.paste(slot, 0, 0, 0, 0), -2);
    Due.outside("81 no such slot to", 0, 3, slot -> x.paste(0, 0, slot, 0, 0), -2);
    Due.is("81 both have nothing", x.paste(0, 0, 1, 0, 0), -6);
    Due.is("81 its own, nothing", x.paste(0, 0, 0, 0, 0), -6);
    x.row(0, 1, 4);
    Due.is("81 to nothing", x.paste(0, 0, 1, 0, 1), -6);
    Due.is("81 from nothing", x.paste(1, 0, 0, 0, 1), -6);
    Due.is("81 -2 is asked ahead of -6", x.paste(1, 0, 4, 0, 1), -2);
    Due.is("81 -6 is asked ahead of -7", x.paste(0, -1, 1, 9, -1), -6);
    for (int width = 0; width < 4; width++) {
      x.row(1, width, 4);
      Due.is("81 width " + width, x.paste(0, 0, 1, 0, 4), width == 1 ? 0 : -8);
      Due.is("81 -8 is asked ahead of -7, width " + width, x.paste(0, 0, 1, 0, 5), width == 1 ? -7 : -8);
      Due.is("81 no numbers of width " + width, x.paste(0, 0, 1, 0, 0), width == 1 ? 0 : -8);
    }
  }

  // Promise 81: "some are beyond their rows, or a place or n is below 0."
  private static void pasteSpans() {
    for (int i = -2; i <= 8; i++) {
      PivotStreet few = ring(3, 4);
      few.row(0, 0, 4);
      few.row(1, 0, 6);
      for (int k = -2; k <= 8; k++) {
        for (int n = -2; n <= 8; n++) {
          boolean below = i < 0 || k < 0 || n < 0;
          Due.is("81 paste(0, " + i + ", 1, " + k + ", " + n + ")", few.paste(0, i, 1, k, n), below || i + n > 4 || k + n > 6 ? -7 : 0);
        }
      }
    }
    PivotStreet x = ring(3, 4);
    x.row(0, 0, 4);
    x.row(1, 0, 6);
    Due.outside("81 i", 0, 3, i -> x.paste(0, i, 1, 0, 1), -7);
    Due.outside("81 k", 0, 5, k -> x.paste(0, 0, 1, k, 1), -7);
    Due.outside("81 n", 0, 4, n -> x.paste(0, 0, 1, 0, n), -7);
    Due.outside("81 n from 1 on", 0, 3, n -> x.paste(0, 1, 1, 1, n), -7);
    x.write(0, 0, 9);
    Due.is("81 beyond there", x.paste(0, 0, 1, 3, 4), -7);
    Due.is("81 beyond here", x.paste(0, 0, 1, 0, 5), -7);
    Due.is("81 nothing happens", x.gate(1), 1);
    Due.is("81 the last number", x.paste(0, 0, 1, 5, 1), 0);
    Due.is("81 it came", x.gate(1), -2);
    x.row(2, 3, 60);
    x.row(3, 3, 60);
    x.write(2, 59, 2);
    x.write(2, 58, 4);
    Due.is("81 all of 60", x.paste(2, 0, 3, 0, 60), 0);
    Due.is("81 they came: house 0 in week 0, 1 in week 4", x.gate(3), 0);
    Due.is("81 the last two", x.paste(2, 58, 3, 0, 2), 0);
    x.row(2, 3, 2);
    Due.is("81 back", x.paste(3, 58, 2, 0, 2), 0);
    Due.is("81 place 2 in week 4: house 1", x.gate(2), 2);
    x.row(2, 3, 0);
    Due.is("81 none to a row of 0", x.paste(3, 60, 2, 0, 0), 0);
    Due.is("81 one to a row of 0", x.paste(3, 0, 2, 0, 1), -7);
  }

  // Promise 81: "(or its own), from one on, as they were".
  private static void pasteOverItself() {
    for (int width = 0; width < 4; width++) {
      for (int i = 0; i <= 4; i++) {
        for (int k = 0; k <= 4; k++) {
          int n = 6 - Math.max(i, k);
          int[] row = {0, 1, 2, 0, 1, 2};
          PivotStreet x = Tape.street(Texts.standing(3, 2));
          x.row(0, width, 6);
          for (int at = 0; at < 6; at++) x.write(0, at, row[at]);
          Due.is("81 over itself", x.paste(0, i, 0, k, n), 0);
          System.arraycopy(row.clone(), i, row, k, n);
          x.row(1, width, 2);
          x.write(1, 0, 1);
          for (int at = 0; at < 6; at++) {
            x.paste(0, at, 1, 1, 1);
            Due.is("81 as they were, number " + at + " from " + i + " to " + k, x.gate(1), 1 << row[at]);
          }
        }
      }
    }
  }
}
