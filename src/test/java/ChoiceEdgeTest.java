/** The edges of what could be: terms V to IX, promises 47 to 68, sentence by sentence. */
public final class ChoiceEdgeTest {
  private static final int NONE = PivotStreet.NONE;
  private static final PivotStreet NO_TOWN = new PivotStreet();
  private static final PivotStreet BARE = Tape.street(Texts.town(4, 0, 10, 5));

  public static void main(String[] args) {
    stayFewest();
    stayByLaws();
    stayOutside();
    moves();
    fair();
    post();
    by();
    law();
    tradeBothMore();
    tradeOrder();
    seenSets();
    seenMost();
    seenRefused("56", PivotStreet::leans);
    seenRefused("57", PivotStreet::surely);
    seenRefused("58", PivotStreet::never);
    seenRefused("59", PivotStreet::ask);
    seenRefused("60", PivotStreet::leaves);
    ask();
    gate();
    gateRefused("61", PivotStreet::gate);
    gateRefused("62", PivotStreet::laws);
    laws();
    worth();
    share();
    gets();
    rests();
    chance();
    chanceOutside();
    mean();
    meanOutside();
    nothingLeftBehind();
    Due.finish();
  }

  private static PivotStreet ring(int houses, int weeks) {
    return Tape.street(Texts.ring(houses, weeks));
  }

  private static PivotStreet standing(int houses, int weeks) {
    return Tape.street(Texts.standing(houses, weeks));
  }

  // Promises 47 and 48: "the fewest HOUSES"; "the least set of so few. NONE, -2 likewise."
  private static void stayFewest() {
    PivotStreet x = Tape.street(Texts.town(4, 0, 10, 0) + Texts.house(10, 10) + Texts.lean(10) + Texts.house(5));
    Due.each("47 force 15 less some", n -> x.stay(0, n), -2, NONE, 3, 1, 0, 1, NONE);
    Due.each("48 force 15 less some", n -> x.stays(0, n), -2, NONE, 11, 1, 0, 4, NONE);
    PivotStreet three = Tape.street(Texts.town(4, 0, 10, 0) + Texts.house(10, 10, 10));
    Due.each("47 none, one, two, all", n -> three.stay(3, n), -1, NONE, 3, 2, 1, 0, NONE);
    Due.each("48 the least set", n -> three.stays(3, n), -1, NONE, 7, 3, 1, 0, NONE);
    PivotStreet leaning = Tape.street(Texts.town(4, 0, 10, 0) + Texts.lean(10) + Texts.house(10, 10));
    Due.each("47 who leans stays in", n -> leaning.stay(0, n), -2, NONE, 2, 1, 0, 1, NONE);
    Due.each("48 who leans stays in", n -> leaning.stays(0, n), -2, NONE, 6, 2, 0, 1, NONE);
    PivotStreet fewer = Tape.street(Texts.town(4, 0, 10, 0) + Texts.house(10, 10, 20));
    Due.each("47 one in place of two ahead of it", n -> fewer.stay(0, n), 0, 3, 2, 1, 1, 0, NONE);
    Due.each("48 one in place of two ahead of it", n -> fewer.stays(0, n), 0, 7, 5, 4, 1, 0, NONE);
    PivotStreet eight = Tape.street(Texts.town(1, 0, 1, 0) + "house push 40;".repeat(8));
    Due.is("47 nobody", eight.stay(0, 320), 0);
    Due.is("48 nobody", eight.stays(0, 320), 0);
    Due.is("47 all of eight", eight.stay(0, 0), 8);
    Due.is("48 all of eight", eight.stays(0, 0), 255);
    Due.is("48 the least of eight", eight.stays(0, 280), 1);
    Due.is("47 by none", eight.stay(0, 321), NONE);
    x.rest(0, 0);
    x.rest(2, 0);
    Due.each("V besides those that do by acts", n -> x.stay(0, n), -1, NONE, 1, 0, NONE);
    Due.each("V besides those that do by acts", n -> x.stays(0, n), -1, NONE, 2, 0, NONE);
    Due.each("V in that week alone", n -> x.stay(1, n), -2, NONE, 3, 1, 0, 1, NONE);
  }

  private static void stayByLaws() {
    PivotStreet one = Tape.street(Texts.town(2, 1, 10, 0) + Texts.house(40, 40));
    Due.each("47 law 1 turns 1 at most", n -> one.stay(0, n), -1, NONE, 2, 0, NONE);
    PivotStreet two = Tape.street(Texts.town(2, 2, 10, 0) + Texts.house(1, 1, 1));
    Due.each("47 law 2 turns 0 to 2", n -> two.stay(1, n), -1, NONE, 0, 2, 1, NONE);
    Due.each("48 law 2 turns 0 to 2", n -> two.stays(1, n), -1, NONE, 0, 3, 1, NONE);
    PivotStreet three = Tape.street(Texts.town(2, 3, 10, 0) + Texts.house(10));
    Due.each("47 law 3 in an even week", n -> three.stay(0, n), -1, NONE, 1, 0, NONE);
    Due.each("47 law 3 in an odd week", n -> three.stay(1, n), -1, NONE, 0, NONE);
    PivotStreet snowy = Tape.street(Texts.town(2, 0, 10, 0) + Texts.house(10, 10, 10) + Texts.snow(0));
    Due.each("47 in snow two push", n -> snowy.stay(0, n), -1, NONE, 2, 1, 0, NONE);
    Due.each("48 who does not push is not asked", n -> snowy.stays(0, n), -1, NONE, 5, 1, 0, NONE);
  }

  // Promise 47: "-2: there is no such WEEK (ahead of the last), n is out of -400 .. 400."
  private static void stayOutside() {
    PivotStreet x = ring(3, 4);
    Due.is("47 n -400", x.stay(0, -400), NONE);
    Due.is("47 n 400", x.stay(0, 400), NONE);
    Due.is("48 n -400", x.stays(0, -400), NONE);
    Due.is("48 n 400", x.stays(0, 400), NONE);
    Due.outside("47 n", -400, 400, n -> x.stay(0, n), -2);
    Due.outside("48 n", -400, 400, n -> x.stays(0, n), -2);
    Due.outside("47 week", 0, 3, w -> x.stay(w, 0), -2);
    Due.outside("48 week", 0, 3, w -> x.stays(w, 0), -2);
    Due.is("47 the last week", x.stay(4, 1), -2);
    Due.is("47 the one ahead of it", x.stay(3, 1), 0);
    Due.each("47 without houses", n -> BARE.stay(3, n), -1, NONE, 0, NONE);
    Due.each("48 without houses", n -> BARE.stays(3, n), -1, NONE, 0, NONE);
    Due.is("47 no town", NO_TOWN.stay(0, 0), -2);
    Due.is("48 no town", NO_TOWN.stays(0, 0), -2);
  }

  // Promise 49: "-2: there is no such WEEK."
  private static void moves() {
    PivotStreet x = Tape.street(Texts.town(4, 0, 10, 0) + Texts.house(10, 10) + Texts.lean(10) + Texts.house(5));
    Due.each("49 moves", x::moves, -1, -2, 4, 4, 4, 4, -2);
    Due.outside("49 week", 0, 3, x::moves, -2);
    Due.is("49 none pushes", standing(8, 4).moves(0), 1);
    Due.is("49 each as hard", Tape.street(Texts.town(1, 0, 1, 0) + "house push 40;".repeat(8)).moves(0), 9);
    Due.is("49 each otherwise", Tape.street(Texts.town(1, 0, 1, 0) + Texts.house(1, 2, 4, 8, 16, 32)).moves(0), 64);
    Due.is("49 both ways", Tape.street(Texts.town(1, 0, 1, 0) + "house push 40;".repeat(4) + "house push 40 leans;".repeat(4)).moves(0), 9);
    Due.each("49 law 3", Tape.street(Texts.town(2, 3, 10, 0) + Texts.house(10))::moves, -1, -2, 2, 1, -2);
    x.rest(2, 3);
    x.rest(1, 3);
    Due.is("49 besides acts: 15, 10, 5, 0", x.moves(3), 2);
    Due.each("49 without houses", BARE::moves, -1, -2, 1, 1, 1, 1, -2);
    Due.is("49 no town", NO_TOWN.moves(0), -2);
  }

  private static String forty(int law, int heavy) {
    return Texts.town(1, law, heavy, 0) + Texts.house(40, 0) + Texts.place(0, 10, 0);
  }

  // Promise 50: "How heavy (1 .. 30), in place of what was told, makes SPAN least, the least of several."
  private static void fair() {
    PivotStreet x = Tape.street(forty(0, 9));
    Due.is("50 13 times round of two", x.fair(), 3);
    Due.is("50 it stays as told", x.count(2), 9);
    Due.is("50 so does the year", x.span(), 20);
    Due.is("50 as fair always", standing(3, 4).fair(), 1);
    Due.is("50 one house", ring(1, 4).fair(), 1);
    Due.is("50 law 2 asks for none", Tape.street(forty(2, 9)).fair(), 1);
    PivotStreet heaviest = Tape.street(Texts.town(3, 1, 1, 0) + Texts.house(29, 0) + Texts.place(0, 10, 0));
    heaviest.swap(0, 1, 2);
    heaviest.rest(0, 2);
    Due.is("50 30", heaviest.fair(), 30);
    // As heavy as 31 it would stand still till the exchange.
    PivotStreet heavier = Tape.street(Texts.town(3, 1, 1, 0) + Texts.house(30, 0) + Texts.place(0, 10, 0));
    heavier.swap(0, 1, 2);
    heavier.rest(0, 2);
    Due.is("50 31 is too heavy", heavier.fair(), 1);
    Due.is("50 without houses", BARE.fair(), 1);
    Due.is("50 no town", NO_TOWN.fair(), -2);
  }

  // Promise 51: "makes most LETTERS right, the least of several. -2 likewise."
  private static void post() {
    Due.is("51 no letters", Tape.street(forty(0, 9)).post(), 1);
    Due.is("51 13 times round of two", Tape.street(forty(0, 9) + Texts.letter(0, 1, 1)).post(), 3);
    Due.is("51 the least of several", Tape.street(forty(0, 9) + Texts.letter(0, 0, 1)).post(), 1);
    Due.is("51 most of them", Tape.street(forty(0, 9) + Texts.letter(0, 0, 1) + Texts.letter(0, 1, 1) + Texts.letter(1, 0, 1)).post(), 3);
    Due.is("51 none can be", Tape.street(forty(0, 9) + Texts.letter(0, 1, 0) + Texts.letter(0, 1, 2) + Texts.letter(0, 2, 1)).post(), 1);
    Due.is("51 30", Tape.street(Texts.town(1, 1, 1, 0) + Texts.house(29, 0) + Texts.letter(0, 0, 1)).post(), 30);
    Due.is("51 29", Tape.street(Texts.town(1, 1, 1, 0) + Texts.house(28, 0) + Texts.letter(0, 0, 1)).post(), 29);
    Due.is("51 31 is too heavy", Tape.street(Texts.town(1, 1, 1, 0) + Texts.house(30, 0) + Texts.letter(0, 0, 1)).post(), 1);
    Due.is("51 without houses", BARE.post(), 1);
    Due.is("51 no town", NO_TOWN.post(), -2);
  }

  private static PivotStreet thirdLaw() {
    PivotStreet x = Tape.street(Texts.town(3, 0, 10, 0) + Texts.house(11, 0) + Texts.place(0, 10, 0));
    x.rest(0, 0);
    x.rest(0, 2);
    x.swap(0, 1, 2);
    return x;
  }

  // Promise 52: "a LAW (0 .. 3) in place of the one told. -2: there is none such, no TOWN."
  private static void by() {
    Due.each("52 turned in an odd week", thirdLaw()::by, -1, -2, 40, 40, 40, 0, -2);
    Due.outside("52 no such law", 0, 3, thirdLaw()::by, -2);
    PivotStreet x = Tape.street(forty(1, 9));
    Due.each("52 40 by 9 is 4", x::by, 0, 20, 0, 20, 20);
    Due.is("52 the year stays as told", x.span(), 0);
    Due.each("52 without houses", BARE::by, -1, -2, 0, 0, 0, 0, -2);
    Due.each("52 no town", NO_TOWN::by, -1, -2, -2, -2, -2, -2, -2);
  }

  // Promise 53: "the least of several. -2: there is no TOWN."
  private static void law() {
    Due.is("53 the last one", thirdLaw().law(), 3);
    Due.is("53 as by any", standing(3, 4).law(), 0);
    Due.is("53 law 1", Tape.street(forty(2, 9)).law(), 1);
    Due.is("53 law 2", Tape.street(Texts.town(1, 0, 30, 0) + Texts.house(11, 0) + Texts.place(0, 10, 0)).law(), 2);
    Due.is("53 the least of 0, 1 and 3", Tape.street(Texts.town(1, 2, 10, 0) + Texts.house(10, 0) + Texts.place(0, 10, 0)).law(), 0);
    Due.is("53 without houses", BARE.law(), 0);
    Due.is("53 no town", NO_TOWN.law(), -2);
  }

  private static PivotStreet market(int houses, int pusher, int... suns) {
    StringBuilder text = new StringBuilder(Texts.town(1, 0, 10, 0));
    for (int h = 0; h < houses; h++) text.append(Texts.house(h == pusher ? 10 : 0));
    for (int p = 0; p < houses; p++) text.append(Texts.place(p, suns[p], p == pusher ? 10 : 0));
    return Tape.street(text.toString());
  }

  private static void trade(String what, PivotStreet x, int first, int pairs) {
    Due.is("54 " + what, x.trade(), first);
    Due.is("55 " + what, x.trades(), pairs);
    Due.is("54 nothing is done", x.count(8), 0);
  }

  // Promise 54: "both have more SUN to the last WEEK".
  private static void tradeBothMore() {
    // House 1 pushes where it does not smell: then all go one on.
    trade("both have more", market(3, 1, 5, 1, 20), 1, 1);
    trade("one more is more", market(3, 1, 5, 1, 10), 1, 1);
    trade("as much is not more", market(3, 1, 5, 1, 9), NONE, 0);
    trade("as much is not more, the other one", market(3, 1, 5, 5, 20), NONE, 0);
    trade("what one gains another loses", Tape.street(Texts.standing(8, 4) + Texts.place(3, 20, 0)), NONE, 0);
    trade("there is no fourth house", Tape.street(Texts.ring(3, 1) + Texts.place(1, 20, 0) + Texts.place(2, 5, 0)), NONE, 0);
    trade("one house", ring(1, 4), NONE, 0);
    trade("without houses", BARE, NONE, 0);
    Due.is("54 no town", NO_TOWN.trade(), -2);
    Due.is("55 no town", NO_TOWN.trades(), -2);
  }

  // Promise 54: "10 times the lesser and the other one, the first of several"; "(ahead of all others of it)".
  private static void tradeOrder() {
    trade("the first of several", market(4, 1, 5, 1, 20, 5), 1, 2);
    trade("the only one", market(4, 1, 12, 1, 20, 5), 13, 1);
    trade("the last two", market(8, 7, 20, 20, 20, 20, 20, 20, 5, 1), 67, 1);
    PivotStreet x = market(3, 1, 1, 10, 20);
    Due.is("54 none as told", x.trade(), NONE);
    x.swap(0, 2, 0);
    // Ahead of it 1 comes to 2 and pushes, 2 comes to 0: 21 for 20, 11 for 2. Behind it 1 would come to 0: 11 for 20.
    Due.is("54 ahead of another one", x.trade(), 12);
    Due.is("55 ahead of another one", x.trades(), 1);
    x.undo();
    x.swap(0, 2, 0);
    x.rest(1, 0);
    Due.is("54 who stays in by an act does so then, too", x.trade(), NONE);
  }

  private static void write(PivotStreet x, int slot, int width, long... numbers) {
    Due.is("79 row", x.row(slot, width, numbers.length), 0);
    for (int i = 0; i < numbers.length; i++) Due.is("80 write", x.write(slot, i, numbers[i]), 0);
  }

  private static void seen(String what, PivotStreet x, long leans, long surely, long never, long ask, long leaves) {
    // Another row is asked about between, one that nothing fits.
    write(x, 1, 1, 0, 400);
    Due.is("56 " + what, x.leans(0), leans);
    Due.is("56 another row", x.leans(1), 0);
    Due.is("57 " + what, x.surely(0), surely);
    Due.is("57 another row", x.surely(1), NONE);
    Due.is("58 " + what, x.never(0), never);
    Due.is("58 another row", x.never(1), NONE);
    Due.is("59 " + what, x.ask(0), ask);
    Due.is("59 another row", x.ask(1), NONE);
    Due.is("60 " + what, x.leaves(0), leaves);
    Due.is("60 another row", x.leaves(1), 0);
  }

  // Promises 56 to 60: "NONE: there are none"; "(as now without)".
  private static void seenSets() {
    PivotStreet x = ring(3, 4);
    write(x, 0, 1);
    seen("nothing seen", x, 8, 0, 0, 0, 4);
    write(x, 0, 1, 0, 1);
    seen("one on", x, 4, 0, 1, NONE, 4);
    write(x, 0, 1, 0, -1);
    seen("one back", x, 4, 1, 0, NONE, 4);
    write(x, 0, 1, 0, 0);
    seen("by none", x, 0, NONE, NONE, NONE, 0);
    write(x, 0, 1, 0, 1, 0, -1);
    seen("both ways in one week", x, 0, NONE, NONE, NONE, 0);
    write(x, 0, 1, 0, 1, 0, 1);
    seen("one week twice", x, 4, 0, 1, NONE, 4);
    write(x, 0, 1, 3, 1);
    seen("the week ahead of the last", x, 4, 0, 1, NONE, 4);
    long[] full = new long[60];
    for (int i = 0; i < 60; i++) full[i] = i % 2 == 0 ? i / 2 % 4 : -1;
    write(x, 0, 0, full);
    seen("a full row", x, 4, 1, 0, NONE, 4);
    x.write(0, 59, 1);
    seen("its last number", x, 0, NONE, NONE, NONE, 0);
    PivotStreet bare = Tape.street(Texts.town(4, 0, 10, 5));
    write(bare, 0, 0);
    seen("without houses", bare, 1, 0, 0, NONE, 1);
    write(bare, 0, 0, 3, 0);
    seen("without houses, no turn", bare, 1, 0, 0, NONE, 1);
    write(bare, 0, 0, 3, 1);
    seen("without houses, a turn", bare, 0, NONE, NONE, NONE, 0);
  }

  private static void seenMost() {
    PivotStreet eight = standing(8, 20);
    write(eight, 0, 0);
    seen("all sets of eight", eight, 256, 0, 0, NONE, 256);
    write(eight, 0, 0, 19, 0);
    seen("all sets of eight", eight, 256, 0, 0, NONE, 256);
    PivotStreet each = Tape.street(Texts.town(2, 0, 1, 0) + Texts.house(1, 2, 4, 8, 16, 32));
    write(each, 0, 0);
    seen("each set turns otherwise", each, 64, 0, 0, 0, 1);
    write(each, 0, 0, 0, 63);
    seen("nobody leans", each, 1, 0, 63, NONE, 1);
    write(each, 0, 0, 0, -63);
    seen("all lean", each, 1, 63, 0, NONE, 1);
    write(each, 0, 0, 0, 62);
    seen("there is no such force", each, 0, NONE, NONE, NONE, 0);
    PivotStreet most = Tape.street(Texts.town(1, 0, 1, 0) + "house push 40 leans;".repeat(8));
    write(most, 0, 1, 0, 320);
    seen("in place of those told", most, 1, 0, 255, NONE, 1);
    write(most, 0, 1, 0, -320);
    seen("as told", most, 1, 255, 0, NONE, 1);
    PivotStreet weak = Tape.street(Texts.town(1, 0, 10, 0) + Texts.house(1, 2, 4));
    write(weak, 0, 0);
    seen("forces that differ turn alike", weak, 8, 0, 0, NONE, 8);
    PivotStreet half = Tape.street(Texts.town(2, 0, 2, 0) + Texts.house(1, 2));
    write(half, 0, 0);
    seen("two forces turn alike", half, 4, 0, 0, 0, 2);
    PivotStreet either = Tape.street(Texts.town(1, 0, 1, 0) + Texts.house(5, 5, 7));
    write(either, 0, 1, 0, 7);
    seen("one of two, each in some set", either, 2, 0, 4, NONE, 2);
    write(either, 0, 1, 0, -7);
    seen("the third one with one of two", either, 2, 4, 0, NONE, 2);
  }

  private interface OfSlot {
    int answer(PivotStreet x, int slot);
  }

  // Promise 56: "-2: there is no such SLOT, no TOWN, a number is none such (asked last), not two each; -6".
  private static void seenRefused(String promise, OfSlot call) {
    PivotStreet x = ring(3, 4);
    Due.outside(promise + " no such slot", 0, 3, slot -> call.answer(x, slot), -2);
    Due.each(promise + " nothing", slot -> call.answer(x, slot), 0, -6, -6, -6, -6);
    for (int n = 1; n < 60; n += 2) {
      x.row(3, 3, n);
      Due.is(promise + " not two each, " + n, call.answer(x, 3), -2);
    }
    for (long week : new long[] {-1, 4, 5, 20, 256, 1L << 32, (1L << 32) + 1, Long.MIN_VALUE, Long.MAX_VALUE}) {
      write(x, 3, 3, week, 1);
      Due.is(promise + " no such week " + week, call.answer(x, 3), -2);
      write(x, 3, 3, 0, 1, week, 1);
      Due.is(promise + " no such week behind " + week, call.answer(x, 3), -2);
    }
    for (long turn : new long[] {-401, 401, 65537, 1L << 32, (1L << 32) + 1, Long.MIN_VALUE, Long.MAX_VALUE}) {
      write(x, 3, 3, 0, turn);
      Due.is(promise + " no such turn " + turn, call.answer(x, 3), -2);
      write(x, 3, 3, 0, 0, 0, turn);
      Due.is(promise + " no such turn behind what can't be " + turn, call.answer(x, 3), -2);
    }
    for (long turn : new long[] {-400, 400}) {
      write(x, 3, 3, 0, turn);
      Due.is(promise + " a turn " + turn, call.answer(x, 3) == -2 ? 1 : 0, 0);
    }
    x.town();
    Due.is(promise + " no town", call.answer(x, 3), -2);
    Due.is(promise + " no town is asked ahead of nothing", call.answer(x, 0), -2);
  }

  // Promise 59: "leaves fewest of these at worst, if fewer than now, the first of several. NONE: none".
  private static void ask() {
    PivotStreet x = ring(3, 4);
    write(x, 0, 0);
    for (int week = 0; week < 3; week++) {
      Due.is("59 the first of several", x.ask(0), week);
      Due.is("60 half of them", x.leaves(0), 4);
      x.rest(0, week);
    }
    Due.is("59 the week ahead of the last", x.ask(0), 3);
    x.rest(0, 3);
    Due.is("59 not fewer than now", x.ask(0), NONE);
    Due.is("60 as now", x.leaves(0), 8);
    // Week 0: house 0 alone is out, worst 4 of 8; week 1: houses 0 and 1, each sum 2 of 8 but 0 4 of 8; week 2: 1, 2, 4.
    PivotStreet three = Tape.street(Texts.town(3, 0, 1, 0) + Texts.house(1, 2, 4));
    three.rest(1, 0);
    three.rest(2, 0);
    three.rest(2, 1);
    write(three, 0, 0);
    Due.is("59 the fewest, not the first", three.ask(0), 2);
    Due.is("60 one at worst", three.leaves(0), 1);
  }

  // Promise 61: "a WEEK (0 .. weeks), a PLACE there is".
  private static void gate() {
    PivotStreet x = ring(3, 4);
    write(x, 0, 0);
    Due.is("61 nothing told", x.gate(0), 7);
    for (int week = 0; week <= 4; week++) {
      for (int place = 0; place < 3; place++) {
        write(x, 0, 0, week, place);
        Due.is("61 week " + week + ", place " + place, x.gate(0), 1 << (place + 6 - week) % 3);
      }
    }
    write(x, 0, 0, 0, 2, 4, 0);
    Due.is("61 round", x.gate(0), 4);
    write(x, 0, 0, 0, 0, 1, 0);
    Due.is("61 none", x.gate(0), 0);
    long[] full = new long[60];
    for (int i = 0; i < 60; i += 2) full[i] = 3;
    write(x, 0, 0, full);
    Due.is("61 a full row", x.gate(0), 1);
    x.write(0, 59, 1);
    Due.is("61 its last number", x.gate(0), 0);
    x.swap(0, 1, 3);
    write(x, 0, 0, 3, 1, 2, 2);
    Due.is("61 behind an exchange", x.gate(0), 1);
  }

  private static void gateRefused(String promise, OfSlot call) {
    PivotStreet x = ring(3, 4);
    Due.outside(promise + " no such slot", 0, 3, slot -> call.answer(x, slot), -2);
    Due.each(promise + " nothing", slot -> call.answer(x, slot), 0, -6, -6, -6, -6);
    for (int n = 1; n < 60; n += 2) {
      x.row(3, 3, n);
      Due.is(promise + " not two each, " + n, call.answer(x, 3), -2);
    }
    for (long week : new long[] {-1, 5, 6, 20, 256, 1L << 32, (1L << 32) + 1, Long.MIN_VALUE, Long.MAX_VALUE}) {
      write(x, 3, 3, week, 0);
      Due.is(promise + " no such week " + week, call.answer(x, 3), -2);
      write(x, 3, 3, 0, 0, week, 0);
      Due.is(promise + " no such week behind " + week, call.answer(x, 3), -2);
    }
    for (long place : new long[] {-1, 3, 7, 256, 1L << 32, (1L << 32) + 1, Long.MIN_VALUE, Long.MAX_VALUE}) {
      write(x, 3, 3, 4, place);
      Due.is(promise + " no such place " + place, call.answer(x, 3), -2);
      write(x, 3, 3, 0, 0, 1, 0, 0, place);
      Due.is(promise + " no such place behind where none was " + place, call.answer(x, 3), -2);
    }
    PivotStreet bare = Tape.street(Texts.town(4, 0, 10, 5));
    write(bare, 0, 0);
    Due.is(promise + " without houses", call.answer(bare, 0), 0);
    write(bare, 0, 0, 0, 0);
    Due.is(promise + " without houses there is no place", call.answer(bare, 0), -2);
    x.town();
    Due.is(promise + " no town", call.answer(x, 3), -2);
    Due.is(promise + " no town is asked ahead of nothing", call.answer(x, 0), -2);
  }

  // Promise 62: "LAWS (0 .. 3) by which some HOUSE was so, as bits."
  private static void laws() {
    PivotStreet x = ring(3, 4);
    write(x, 0, 0);
    Due.is("62 nothing told", x.laws(0), 15);
    write(x, 0, 0, 0, 0, 1, 1);
    Due.is("62 by all", x.laws(0), 15);
    write(x, 0, 0, 1, 1, 2, 2);
    Due.is("62 by all but the last", x.laws(0), 7);
    write(x, 0, 0, 1, 1, 2, 1);
    Due.is("62 by the last alone", x.laws(0), 8);
    write(x, 0, 0, 0, 0, 1, 0);
    Due.is("62 by none", x.laws(0), 0);
    write(x, 0, 0, 4, 1, 0, 0);
    Due.is("62 the last week", x.laws(0), 7);
    write(x, 0, 0, 4, 2, 0, 0);
    Due.is("62 the last week by the last law", x.laws(0), 8);
    Due.is("62 the year stays as told", x.at(0, 2), 2);
  }

  // Promise 63: "-2: there is no such set, no TOWN." Terms VII: "each aside from its sign".
  private static void worth() {
    PivotStreet x = ring(3, 4);
    Due.each("63 sets", x::worth, -1, -2, 0, 4, 0, 4, 0, 4, 0, 4, -2);
    Due.outside("63 no such set", 0, 7, x::worth, -2);
    Due.is("63 aside from signs", Tape.street(Texts.backwards(3, 4)).worth(1), 4);
    PivotStreet most = Tape.street(Texts.town(20, 0, 1, 0) + "house push 40 leans;".repeat(8));
    Due.is("63 the most", most.worth(255), 6400);
    Due.is("63 one of eight", most.worth(128), 800);
    Due.outside("63 no such set of eight", 0, 255, most::worth, -2);
    Due.each("63 without houses", BARE::worth, -1, -2, 0, -2);
    Due.each("63 no town", NO_TOWN::worth, -1, -2, -2, -2);
  }

  private static void share(String what, PivotStreet x, int house, int above, int below) {
    Due.is("64 " + what + ", above", x.share(house, 0), above);
    Due.is("64 " + what + ", below", x.share(house, 1), below);
  }

  // Promise 64: "-2: there are none such." Terms VII: "(below 0, too)"; IX: "in lowest terms (0 / 1)".
  private static void share() {
    PivotStreet x = ring(3, 4);
    share("all", x, 0, 4, 1);
    share("nothing", x, 1, 0, 1);
    share("nothing", x, 2, 0, 1);
    for (int what = 0; what < 2; what++) {
      int part = what;
      Due.outside("64 no such house", 0, 2, h -> x.share(h, part), -2);
    }
    Due.outside("64 no such what", 0, 1, what -> x.share(0, what), -2);
    PivotStreet thirds = Tape.street(Texts.town(1, 0, 10, 0) + Texts.house(5, 5, 5));
    for (int h = 0; h < 3; h++) share("a third", thirds, h, 1, 3);
    PivotStreet eighths = Tape.street(Texts.town(1, 0, 30, 0) + "house push 5;".repeat(8));
    for (int h = 0; h < 8; h++) share("an eighth", eighths, h, 1, 8);
    PivotStreet below = Tape.street(Texts.town(1, 0, 5, 0) + Texts.house(10) + Texts.lean(4));
    share("below 0", below, 1, -1, 2);
    share("with it", below, 0, 3, 2);
    share("one house", ring(1, 20), 0, 20, 1);
    share("all of eight houses", ring(8, 20), 0, 20, 1);
    share("nothing of eight houses", ring(8, 20), 7, 0, 1);
    PivotStreet half = Tape.street(Texts.town(1, 1, 10, 0) + Texts.house(10, 10, 0, 0, 0, 0, 0, 0));
    share("half of eight houses", half, 1, 1, 2);
    Due.is("64 without houses", BARE.share(0, 0), -2);
    Due.is("64 no town", NO_TOWN.share(0, 1), -2);
    x.rest(0, 0);
    share("behind an act", x, 0, 3, 1);
    x.undo();
    share("taken back", x, 0, 4, 1);
    x.rate(0, 20);
    share("behind a push told", x, 0, 8, 1);
  }

  // Promise 66: "(1 it stays in, 0 not; below 0, too). -1,000: there are none such, one twice."
  private static void gets() {
    PivotStreet x = ring(3, 20);
    Due.is("66 below 0", x.gets(0, 1, 0, 0), -40);
    Due.is("66 it stays in", x.gets(0, 1, 1, 0), 0);
    Due.is("66 the other one stays in", x.gets(0, 1, 0, 1), -40);
    Due.is("66 the other one pushes", x.gets(1, 0, 0, 0), 0);
    Due.outside("66 no such house", 0, 2, h -> x.gets(h, 1, 0, 0), -1000);
    Due.outside("66 no such other one", 0, 2, h -> x.gets(1, h, 0, 0), -1000);
    Due.outside("66 none such, twice", 0, 2, h -> x.gets(h, h, 0, 0), -1000);
    Due.outside("66 no such choice", 0, 1, c -> x.gets(0, 1, c, 0), -1000);
    Due.outside("66 no such other choice", 0, 1, c -> x.gets(0, 1, 0, c), -1000);
    for (int h = 0; h < 3; h++) Due.is("66 one twice", x.gets(h, h, 0, 1), -1000);
    PivotStreet smelly = Tape.street(Texts.standing(2, 4).replace("push 0", "push 5") + Texts.place(0, 3, 5) + Texts.place(1, 0, 4));
    Due.is("VIII more than 0: what smells as much is not", smelly.gets(0, 1, 0, 0), 15);
    Due.is("VIII more than 0: 1 is", smelly.gets(1, 0, 0, 0), -8);
    smelly.rest(1, 2);
    Due.is("VIII who stays in by an act does not push", smelly.gets(1, 0, 0, 0), -6);
    Due.is("66 one house", ring(1, 4).gets(0, 0, 0, 0), -1000);
    Due.is("66 without houses", BARE.gets(0, 1, 0, 0), -1000);
    Due.is("66 no town", NO_TOWN.gets(0, 1, 0, 0), -1000);
  }

  private static PivotStreet lure(int sun) {
    return Tape.street(Texts.ring(2, 1) + Texts.place(1, sun, 0));
  }

  // Promise 65: "-2: there are none such, one twice." Terms VIII: "neither GETS more by the other choice alone".
  private static void rests() {
    Due.is("65 all", standing(2, 4).rests(0, 1), 15);
    Due.is("65 the first one stays in", ring(2, 4).rests(0, 1), 10);
    Due.is("65 the other one stays in", ring(2, 4).rests(1, 0), 12);
    Due.is("65 more by going out", lure(3).rests(0, 1), 5);
    Due.is("65 more by going out, the other one", lure(3).rests(1, 0), 3);
    Due.is("65 as much is not more", lure(2).rests(0, 1), 15);
    Due.is("65 less by going out", lure(1).rests(0, 1), 10);
    games();
    PivotStreet x = ring(3, 4);
    Due.outside("65 no such house", 0, 2, h -> x.rests(h, 1), -2);
    Due.outside("65 no such other one", 0, 2, h -> x.rests(1, h), -2);
    Due.outside("65 none such, twice", 0, 2, h -> x.rests(h, h), -2);
    Due.each("65 one twice", h -> x.rests(h, h), 0, -2, -2, -2);
    Due.is("65 one house", ring(1, 4).rests(0, 0), -2);
    Due.is("65 without houses", BARE.rests(0, 1), -2);
    Due.is("65 no town", NO_TOWN.rests(0, 1), -2);
  }

  private static void game(String what, PivotStreet x, int[][] first, int[][] second, int rests) {
    for (int a = 0; a < 2; a++) {
      for (int b = 0; b < 2; b++) {
        Due.is("66 " + what + ", the first one " + a + " " + b, x.gets(0, 1, a, b), first[a][b]);
        Due.is("66 " + what + ", the other one " + b + " " + a, x.gets(1, 0, b, a), second[a][b]);
      }
    }
    Due.is("65 " + what, x.rests(0, 1), rests);
    Due.is("65 " + what + ", the other one first", x.rests(1, 0), rests & 9 | (rests & 2) << 1 | (rests & 4) >> 1);
  }

  // Each row by what the first one does, 0 out, 1 in; in it by what the other one does.
  private static void games() {
    String two = Texts.house(10, 10) + Texts.place(0, 5, 0);
    game("none is at rest", Tape.street(Texts.town(1, 0, 10, 0) + two), new int[][] {{8, 3}, {5, 10}}, new int[][] {{-2, 5}, {3, 0}}, 0);
    game("as much is not more", Tape.street(Texts.town(1, 0, 10, 0) + two + Texts.place(1, 3, 0)), new int[][] {{8, 6}, {8, 10}}, new int[][] {{4, 8}, {6, 6}}, 10);
    game("both stay in", Tape.street(Texts.town(1, 0, 20, 0) + two + Texts.place(1, 9, 0)), new int[][] {{12, 8}, {10, 10}}, new int[][] {{12, 18}, {16, 18}}, 8);
    String three = Texts.house(10, 10, 0) + Texts.place(1, 5, 0) + Texts.place(2, 20, 0);
    game("both or neither", Tape.street(Texts.town(1, 0, 20, 0) + three), new int[][] {{3, -2}, {0, 0}}, new int[][] {{23, 10}, {8, 10}}, 9);
  }

  /** House 1 alone pushes; at the places between the first and the last it does not in snow. */
  private static PivotStreet walker(int houses, int weeks, int odds, String more) {
    return Tape.street(Texts.town(weeks, 0, 10, odds) + Texts.house(0, 10) + "house push 0;".repeat(houses - 2) + more);
  }

  private static void chance(String what, PivotStreet x, int place, int week, long above, long below) {
    Due.is("67 " + what + ", above", x.chance(1, place, week, 0), above);
    Due.is("67 " + what + ", below", x.chance(1, place, week, 1), below);
  }

  // Promise 67: "SNOWS (IX) in WEEKS 0 to one (0 .. 7, ahead of the last; behind it as told)"; IX "(0 / 1)".
  private static void chance() {
    PivotStreet x = walker(8, 20, 1, "");
    chance("one snow", x, 1, 0, 1, 10);
    chance("no snow", x, 2, 0, 9, 10);
    chance("none such", x, 3, 0, 0, 1);
    // Quite round without snow at 1 .. 6, or eight snows.
    chance("eight weeks", x, 1, 7, 53144101, 100000000);
    chance("eight weeks, odds 5", walker(8, 8, 5, ""), 1, 7, 5, 256);
    chance("odds 0", walker(3, 4, 0, Texts.snow(0)), 2, 0, 1, 1);
    chance("odds 0, told snow is not", walker(3, 4, 0, Texts.snow(0)), 1, 0, 0, 1);
    chance("odds 10", walker(3, 4, 10, ""), 1, 3, 1, 1);
    chance("odds 10, no other place", walker(3, 4, 10, ""), 2, 3, 0, 1);
    PivotStreet swapped = walker(3, 4, 5, "");
    swapped.swap(1, 0, 1);
    chance("behind exchanges of the week behind it", swapped, 0, 0, 1, 2);
    chance("no longer there", swapped, 2, 0, 0, 1);
    chance("where the other one was", swapped, 1, 0, 1, 2);
  }

  private static void chanceOutside() {
    PivotStreet x = walker(3, 20, 5, "");
    for (int what = 0; what < 2; what++) {
      int part = what;
      Due.outside("67 no such house", 0, 2, h -> x.chance(h, 0, 0, part), -2);
      Due.outside("67 no such place", 0, 2, p -> x.chance(0, p, 0, part), -2);
      Due.outside("67 week beyond 7", 0, 7, w -> x.chance(0, 0, w, part), -2);
    }
    Due.outside("67 no such what", 0, 1, what -> x.chance(0, 0, 0, what), -2);
    for (int weeks = 1; weeks <= 9; weeks++) {
      PivotStreet y = Tape.street(Texts.standing(2, weeks));
      int most = Math.min(7, weeks - 1);
      Due.is("67 the last that can be asked of " + weeks, y.chance(1, 1, most, 0), 1);
      Due.is("67 one behind it", y.chance(1, 1, most + 1, 0), -2);
      Due.is("68 the last that can be asked of " + weeks, y.mean(1, most, 0), 0);
      Due.is("68 one behind it", y.mean(1, most + 1, 0), -2);
    }
    Due.is("67 without houses", BARE.chance(0, 0, 0, 0), -2);
    Due.is("67 no town", NO_TOWN.chance(0, 0, 0, 0), -2);
  }

  private static void mean(String what, PivotStreet x, int week, long above, long below) {
    Due.is("68 " + what + ", above", x.mean(1, week, 0), above);
    Due.is("68 " + what + ", below", x.mean(1, week, 1), below);
  }

  // Promise 68: "The mean SUN of a HOUSE to the WEEK behind it, above, below. -2: there are none such."
  private static void mean() {
    String sun = Texts.place(1, 1, 0);
    mean("one week", walker(8, 20, 3, sun), 0, 13, 10);
    mean("two weeks", walker(8, 20, 3, sun), 1, 139, 100);
    mean("odds 0", walker(8, 20, 0, sun + Texts.snow(0)), 1, 1, 1);
    mean("odds 10", walker(8, 20, 10, sun), 7, 9, 1);
    String everywhere = Texts.place(0, 3, 0) + Texts.place(1, 5, 0) + Texts.place(2, 6, 0);
    mean("sun everywhere, one week", walker(3, 4, 0, everywhere), 0, 11, 1);
    mean("sun everywhere, all weeks", walker(3, 4, 0, everywhere), 3, 25, 1);
    mean("sun everywhere, in snow", walker(3, 4, 10, everywhere), 3, 25, 1);
    mean("no sun", walker(8, 20, 3, ""), 7, 0, 1);
    // 1 + 1/10 + .. + 1/10 ^ 8, and 9 ^ 6 / 10 ^ 6 for quite round.
    mean("eight weeks", walker(8, 20, 1, sun), 7, 164255211, 100000000);
    PivotStreet swapped = walker(3, 4, 5, sun);
    swapped.swap(1, 0, 1);
    mean("behind exchanges of the week behind it", swapped, 0, 3, 2);
    mean("the most", Tape.street(Texts.standing(2, 20) + Texts.place(1, 20, 0)), 7, 180, 1);
  }

  private static void meanOutside() {
    PivotStreet x = walker(3, 20, 5, "");
    for (int what = 0; what < 2; what++) {
      int part = what;
      Due.outside("68 no such house", 0, 2, h -> x.mean(h, 0, part), -2);
      Due.outside("68 week beyond 7", 0, 7, w -> x.mean(0, w, part), -2);
    }
    Due.outside("68 no such what", 0, 1, what -> x.mean(0, 0, what), -2);
    Due.is("68 without houses", BARE.mean(0, 0, 0), -2);
    Due.is("68 no town", NO_TOWN.mean(0, 0, 0), -2);
  }

  // What could be changes nothing, and no question's answer stands in the way of another's.
  private static void nothingLeftBehind() {
    String text = Texts.town(3, 0, 7, 4) + Texts.house(11, 6) + Texts.lean(9) + Texts.place(0, 3, 2) + Texts.place(1, 8, 0) + Texts.place(2, 1, 4) + Texts.snow(1) + Texts.letter(0, 2, 1) + Texts.letter(2, 0, 3);
    PivotStreet fresh = seeing(text);
    String told = State.of(fresh);
    String due = State.wide(fresh);
    String[] questions = {"fair", "post", "by", "trade", "leans", "laws", "worth", "share", "rests", "gets", "chance", "mean", "drawn", "luck", "stays", "moves"};
    for (String question : questions) {
      PivotStreet x = seeing(text);
      ask(x, question);
      Due.is("behind " + question + " all is as told", State.of(x), told);
      ask(x, question);
      Due.is("behind " + question + " all else is answered as ever", State.wide(x), due);
    }
    for (String question : questions) {
      for (String other : questions) {
        PivotStreet x = seeing(text);
        ask(x, other);
        Due.is(question + " behind " + other, ask(x, question), ask(seeing(text), question));
      }
    }
  }

  /** Slot 0 has the turns of weeks 1 and 2 as told; the town is read again, as if nothing had been asked. */
  private static PivotStreet seeing(String text) {
    PivotStreet x = Tape.street(text);
    write(x, 0, 1, 1, x.turn(1), 2, x.turn(2));
    Due.is("56 some can lean, some can't", x.leans(0) > 0 && x.leans(0) < 8 ? 1 : 0, 1);
    return Tape.town(x, text) > 0 ? x : null;
  }

  private static long ask(PivotStreet x, String question) {
    switch (question) {
      case "fair": return x.fair();
      case "post": return x.post();
      case "by": return x.by(3);
      case "trade": return x.trade();
      case "leans": return x.leans(0);
      case "laws": return x.laws(0);
      case "worth": return x.worth(5);
      case "share": return x.share(2, 0);
      case "rests": return x.rests(0, 2);
      case "gets": return x.gets(0, 2, 1, 0);
      case "chance": return x.chance(0, 1, 2, 0);
      case "mean": return x.mean(0, 2, 0);
      case "drawn": return x.drawn(8, 1);
      case "luck": return x.luck(8, 20, 0);
      case "stays": return x.stays(0, 0);
      default: return x.moves(0);
    }
  }
}
