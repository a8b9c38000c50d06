/** The edges of a year as told: terms II to IV, promises 10 to 46, sentence by sentence. */
public final class YearEdgeTest {
  private static final int NONE = PivotStreet.NONE;
  private static final PivotStreet NO_TOWN = new PivotStreet();
  private static final PivotStreet BARE = Tape.street(Texts.town(4, 0, 10, 5));

  public static void main(String[] args) {
    exchangesAsGiven();
    exchangesAheadOfPushes();
    at();
    who();
    pushes();
    force();
    turnCut();
    turnByLaws();
    stands();
    jerk();
    still();
    strongest();
    toil();
    sun();
    brownAndPale();
    span();
    home();
    sees();
    when();
    apart();
    often();
    nose();
    idle();
    backs();
    beside();
    all();
    noon();
    mates();
    view();
    best();
    sweet();
    last();
    same();
    loose();
    gold();
    letters();
    behindTheLastWeek();
    Due.finish();
  }

  private static PivotStreet ring(int houses, int weeks) {
    return Tape.street(Texts.ring(houses, weeks));
  }

  private static PivotStreet backwards(int houses, int weeks) {
    return Tape.street(Texts.backwards(houses, weeks));
  }

  private static PivotStreet standing(int houses, int weeks) {
    return Tape.street(Texts.standing(houses, weeks));
  }

  // Terms II: "first HOUSES are exchanged (acts of it, as they were given)".
  private static void exchangesAsGiven() {
    PivotStreet x = standing(3, 2);
    x.swap(0, 1, 0);
    x.swap(1, 2, 0);
    Due.each("II exchanged as given", h -> x.at(h, 0), 0, 1, 2, 0);
    x.anew();
    x.swap(1, 2, 0);
    x.swap(0, 1, 0);
    Due.each("II in the other order", h -> x.at(h, 0), 0, 2, 0, 1);
    x.anew();
    x.swap(1, 2, 1);
    x.swap(0, 1, 0);
    Due.each("II an earlier week said later", h -> x.at(h, 0), 0, 1, 0, 2);
    Due.each("II a later week said earlier", h -> x.at(h, 1), 0, 1, 2, 0);
    x.anew();
    x.swap(0, 2, 0);
    x.swap(2, 0, 0);
    Due.each("II twice is as before", h -> x.at(h, 0), 0, 0, 1, 2);
  }

  // Terms II: "Then each HOUSE that does not stay in pushes ..."
  private static void exchangesAheadOfPushes() {
    PivotStreet x = Tape.street(Texts.town(2, 0, 10, 0) + Texts.house(10, 0) + Texts.place(1, 0, 5));
    x.swap(0, 1, 0);
    Due.is("II the smell of the place behind the exchange", x.pushes(0, 0), 5);
    PivotStreet snowy = Tape.street(Texts.town(2, 0, 10, 0) + Texts.house(10, 9, 8) + Texts.snow(0));
    Due.each("II in snow the first and the last place alone", h -> snowy.pushes(h, 0), 0, 10, 0, 8);
    snowy.swap(0, 1, 0);
    Due.each("II behind the exchange", h -> snowy.pushes(h, 0), 0, 0, 9, 8);
    snowy.rest(1, 0);
    Due.each("II who stays in does not", h -> snowy.pushes(h, 0), 0, 0, 0, 8);
  }

  // Promise 10: "-2: there are none such." Terms III: "so many PLACES further (back, below 0), round".
  private static void at() {
    PivotStreet x = ring(3, 4);
    for (int h = 0; h < 3; h++) {
      int house = h;
      Due.each("10 one on each week, house " + h, w -> x.at(house, w), 0, h, (h + 1) % 3, (h + 2) % 3, h, (h + 1) % 3);
      Due.outside("10 no such week", 0, 4, w -> x.at(house, w), -2);
    }
    for (int w = 0; w <= 4; w++) {
      int week = w;
      Due.outside("10 no such house", 0, 2, h -> x.at(h, week), -2);
    }
    PivotStreet back = backwards(3, 4);
    Due.each("10 one back each week", w -> back.at(0, w), 0, 0, 2, 1, 0, 2);
    Due.is("10 eight houses, twenty weeks", ring(8, 20).at(7, 20), 3);
    Due.is("10 eight houses, twenty weeks back", backwards(8, 20).at(0, 20), 4);
    Due.is("10 eight houses, week 21", ring(8, 20).at(7, 21), -2);
    Due.each("10 one house", w -> ring(1, 4).at(0, w), 0, 0, 0, 0, 0, 0);
    PivotStreet far = Tape.street(Texts.town(1, 0, 1, 0) + Texts.house(40, 40, 39));
    Due.is("10 119 on, round", far.at(0, 1), 2);
    PivotStreet farBack = Tape.street(Texts.town(1, 0, 1, 0) + Texts.lean(40) + Texts.lean(40) + Texts.lean(39));
    Due.is("10 119 back, round", farBack.at(0, 1), 1);
    Due.is("10 without houses", BARE.at(0, 0), -2);
    Due.is("10 without a town", NO_TOWN.at(0, 0), -2);
  }

  // Promise 11: "-2 likewise."
  private static void who() {
    PivotStreet x = ring(3, 4);
    for (int p = 0; p < 3; p++) {
      int place = p;
      Due.each("11 at place " + p, w -> x.who(place, w), 0, p, (p + 2) % 3, (p + 1) % 3, p, (p + 2) % 3);
      Due.outside("11 no such week", 0, 4, w -> x.who(place, w), -2);
    }
    for (int w = 0; w <= 4; w++) {
      int week = w;
      Due.outside("11 no such place", 0, 2, p -> x.who(p, week), -2);
    }
    Due.each("11 more places than weeks", p -> standing(8, 1).who(p, 1), 0, 0, 1, 2, 3, 4, 5, 6, 7, -2);
    Due.each("11 more places than weeks, one on", p -> ring(8, 1).who(p, 1), 0, 7, 0, 1, 2, 3, 4, 5, 6, -2);
    Due.is("11 without houses", BARE.who(0, 0), -2);
    Due.is("11 without a town", NO_TOWN.who(0, 0), -2);
  }

  // Promise 12, terms II: "less the smell of its PLACE (0 at least)"; "PLACE 0 and at the last one alone".
  private static void pushes() {
    String start = Texts.town(4, 0, 30, 0);
    PivotStreet x = Tape.street(start + Texts.house(5, 5, 5, 0, 40) + Texts.place(0, 0, 4) + Texts.place(1, 0, 5) + Texts.place(2, 0, 6) + Texts.place(3, 0, 20) + Texts.place(4, 0, 20));
    Due.each("12 0 at least", h -> x.pushes(h, 0), 0, 1, 0, 0, 0, 20);
    for (int w = 0; w < 4; w++) {
      int week = w;
      Due.outside("12 no such house", 0, 4, h -> x.pushes(h, week), -2);
    }
    Due.is("12 the week ahead of the last", x.pushes(4, 3), 20);
    Due.outside("12 no such week", 0, 3, w -> x.pushes(4, w), -2);
    PivotStreet snowy = Tape.street(start + Texts.house(1, 2, 3, 4) + Texts.lean(5) + Texts.snow(0, 3, 4));
    Due.each("12 in snow the first and the last place alone", h -> snowy.pushes(h, 0), 0, 1, 0, 0, 0, 5);
    Due.each("12 behind it all", h -> snowy.pushes(h, 1), 0, 1, 2, 3, 4, 5);
    Due.each("12 in the week ahead of the last", h -> snowy.pushes(h, 3), 0, 1, 0, 0, 0, 5);
    PivotStreet two = Tape.street(start + Texts.house(1, 2) + Texts.snow(0));
    Due.each("12 of two in snow both", h -> two.pushes(h, 0), 0, 1, 2);
    Due.is("12 of one in snow that one", Tape.street(start + Texts.house(3) + Texts.snow(0)).pushes(0, 0), 3);
    Due.is("12 in snow the smell is less, too", Tape.street(start + Texts.house(3) + Texts.snow(0) + Texts.place(0, 0, 2)).pushes(0, 0), 1);
    two.rest(1, 1);
    Due.each("12 who stays in", w -> two.pushes(1, w), 0, 2, 0, 2, 2, -2);
    Due.is("12 without houses", BARE.pushes(0, 0), -2);
    Due.is("12 without a town", NO_TOWN.pushes(0, 0), -2);
  }

  // Promise 13: "-10,000: there is none such." Terms II: "(below 0, too)".
  private static void force() {
    PivotStreet most = Tape.street(Texts.town(20, 0, 1, 0) + "house push 40;".repeat(8));
    Due.is("13 the most", most.force(19), 320);
    PivotStreet least = Tape.street(Texts.town(20, 0, 1, 0) + "house push 40 leans;".repeat(8));
    Due.is("13 the least", least.force(19), -320);
    Due.outside("13 no such week", 0, 19, most::force, -10000);
    Due.outside("14 no such week", 0, 19, most::turn, -10000);
    Due.is("14 the most", most.turn(19), 320);
    Due.is("14 the least", least.turn(0), -320);
    PivotStreet even = Tape.street(Texts.town(1, 0, 1, 0) + Texts.house(7) + Texts.lean(7));
    Due.is("13 as much for as against", even.force(0), 0);
    Due.is("13 the last week is none", even.force(1), -10000);
    Due.is("14 the last week is none", even.turn(1), -10000);
    Due.each("13 without houses", BARE::force, -1, -10000, 0, 0, 0, 0, -10000);
    Due.each("14 without houses", BARE::turn, -1, -10000, 0, 0, 0, 0, -10000);
    Due.each("13 without a town", NO_TOWN::force, -1, -10000, -10000, -10000);
    Due.each("14 without a town", NO_TOWN::turn, -1, -10000, -10000, -10000);
  }

  private static int turn(int law, int heavy, int force, int houses) {
    String first = force < 0 ? Texts.lean(-force) : Texts.house(force);
    return Tape.street(Texts.town(1, law, heavy, 0) + first + "house push 0;".repeat(houses - 1)).turn(0);
  }

  // Terms III, 0: "FORCE by heavy, cut (towards 0)"; 1: "if FORCE is heavy or more", "heavy below 0, or more below".
  private static void turnCut() {
    int[] forces = {0, 1, 9, 10, 11, 19, 20, 39, 40};
    int[] byTen = {0, 0, 0, 1, 1, 1, 2, 3, 4};
    for (int i = 0; i < forces.length; i++) {
      int sign = Math.min(1, byTen[i]);
      for (int houses = 1; houses <= 8; houses += 7) {
        Due.is("III law 0, force " + forces[i], turn(0, 10, forces[i], houses), byTen[i]);
        Due.is("III law 0, force -" + forces[i], turn(0, 10, -forces[i], houses), -byTen[i]);
        Due.is("III law 1, force " + forces[i], turn(1, 10, forces[i], houses), sign);
        Due.is("III law 1, force -" + forces[i], turn(1, 10, -forces[i], houses), -sign);
        Due.is("III law 3, force " + forces[i], turn(3, 10, forces[i], houses), byTen[i]);
        Due.is("III law 3, force -" + forces[i], turn(3, 10, -forces[i], houses), -byTen[i]);
      }
    }
    Due.is("III law 0, heavy 1", turn(0, 1, -40, 3), -40);
    Due.is("III law 1, heavy 1", turn(1, 1, 1, 3), 1);
    Due.is("III law 1, heavy 1, nothing", turn(1, 1, 0, 3), 0);
    Due.is("III law 1, heavy 30, one less", turn(1, 30, 29, 3), 0);
    Due.is("III law 1, heavy 30", turn(1, 30, 30, 3), 1);
    Due.is("III law 0, heavy 30, one less back", turn(0, 30, -29, 3), 0);
    Due.is("III law 0, heavy 30, back", turn(0, 30, -30, 3), -1);
  }

  // Terms III, 2: "0 or more (0 .. HOUSES less 1; without HOUSES 0)"; 3: "as by 0 in even WEEKS, else 0".
  private static void turnByLaws() {
    int[] ofThree = {2, 0, 1, 2, 0, 1, 2, 0, 1};
    for (int force = -4; force <= 4; force++) {
      Due.is("III law 2 of three, force " + force, turn(2, 10, force, 3), ofThree[force + 4]);
      Due.is("III law 2 of one, force " + force, turn(2, 10, force, 1), 0);
    }
    Due.is("III law 2 of eight, -1", turn(2, 1, -1, 8), 7);
    Due.is("III law 2 of eight, 7", turn(2, 1, 7, 8), 7);
    Due.is("III law 2 of eight, 8", turn(2, 1, 8, 8), 0);
    Due.is("III law 2 of eight, -8", turn(2, 1, -8, 8), 0);
    Due.is("III law 2 of seven, -40", turn(2, 1, -40, 7), 2);
    for (int law = 0; law < 4; law++) {
      PivotStreet none = Tape.street(Texts.town(2, law, 1, 0));
      Due.each("III without houses, law " + law, none::turn, 0, 0, 0, -10000);
    }
    PivotStreet third = Tape.street(Texts.town(5, 3, 10, 0) + Texts.lean(25) + Texts.house(0, 0));
    Due.each("III law 3 in even weeks", third::turn, 0, -2, 0, -2, 0, -2, -10000);
    Due.each("III law 3, force in odd weeks, too", third::force, 0, -25, -25, -25, -25, -25);
  }

  // Promise 15: "round (0 .. HOUSES less 1; without HOUSES 0). -2: there is none such, no TOWN."
  private static void stands() {
    Due.each("15 on", ring(3, 4)::stands, -1, -2, 0, 1, 2, 0, 1, -2);
    Due.each("15 back", backwards(3, 4)::stands, -1, -2, 0, 2, 1, 0, 2, -2);
    Due.each("15 on, of four: turns, not forces", ring(4, 4)::stands, 0, 0, 1, 2, 3, 0, -2);
    Due.each("15 without houses", BARE::stands, -1, -2, 0, 0, 0, 0, 0, -2);
    Due.each("15 one house", ring(1, 2)::stands, 0, 0, 0, 0, -2);
    Due.outside("15 no such week", 0, 4, ring(3, 4)::stands, -2);
    Due.each("15 no town", NO_TOWN::stands, -1, -2, -2, -2);
    PivotStreet far = Tape.street(Texts.town(20, 0, 1, 0) + "house push 40 leans;".repeat(7));
    Due.is("15 5600 back of seven", far.stands(20), 0);
    PivotStreet odd = Tape.street(Texts.town(20, 0, 1, 0) + Texts.lean(40) + Texts.lean(40) + Texts.lean(39));
    Due.is("15 2380 back of three", odd.stands(20), 2);
    Due.is("15 2261 back of three", odd.stands(19), 1);
  }

  // Promise 16: "aside from its sign, is greatest, the first of several."
  private static void jerk() {
    PivotStreet x = Tape.street(Texts.town(4, 0, 10, 0) + Texts.house(20) + Texts.lean(20));
    Due.is("16 none turns", x.jerk(), 0);
    x.rest(1, 3);
    Due.is("16 the week ahead of the last", x.jerk(), 3);
    x.rest(0, 1);
    Due.is("16 as much back, earlier", x.jerk(), 1);
    x.anew();
    x.rest(1, 1);
    x.rest(0, 2);
    Due.is("16 as much back, later", x.jerk(), 1);
    PivotStreet more = Tape.street(Texts.town(4, 0, 10, 0) + Texts.house(20) + Texts.lean(30));
    more.rest(1, 0);
    more.rest(0, 2);
    Due.each("14 both ways", more::turn, 0, 2, -1, -3, -1);
    Due.is("16 back, aside from its sign", more.jerk(), 2);
    Due.is("16 one week", ring(3, 1).jerk(), 0);
    Due.is("16 without houses", BARE.jerk(), 0);
    Due.is("16 no town", NO_TOWN.jerk(), -2);
  }

  // Promise 17: "WEEKS ahead of the last with no TURN, as bits. -2 likewise."
  private static void still() {
    Due.is("17 all of twenty", standing(2, 20).still(), (1 << 20) - 1);
    Due.is("17 none", ring(3, 20).still(), 0);
    Due.is("17 one week", standing(1, 1).still(), 1);
    PivotStreet x = Tape.street(Texts.town(4, 0, 10, 0) + Texts.house(20) + Texts.lean(20));
    x.rest(1, 1);
    x.rest(0, 3);
    Due.is("17 back is a turn, too", x.still(), 5);
    Due.is("17 a turn quite round is one", Tape.street(Texts.town(2, 0, 10, 0) + Texts.house(20, 0)).still(), 0);
    Due.is("17 a force that is too small", Tape.street(Texts.town(3, 0, 10, 0) + Texts.house(9)).still(), 7);
    Due.is("17 too small below 0", Tape.street(Texts.town(3, 0, 10, 0) + Texts.lean(9)).still(), 7);
    Due.is("17 without houses", BARE.still(), 15);
    Due.is("17 no town", NO_TOWN.still(), -2);
  }

  // Promise 18: "the first of several, if any pushes. NONE: none; -2: there is none such."
  private static void strongest() {
    PivotStreet x = Tape.street(Texts.town(2, 0, 30, 0) + Texts.house(5) + Texts.lean(7) + Texts.house(7, 6));
    Due.each("18 the first of several", x::strongest, -1, -2, 1, 1, -2);
    x.rest(1, 1);
    Due.each("18 the other one", x::strongest, 0, 1, 2);
    Due.each("18 the first house alone", ring(3, 2)::strongest, -1, -2, 0, 0, -2);
    Due.each("18 none pushes", standing(3, 2)::strongest, -1, -2, NONE, NONE, -2);
    PivotStreet smelly = Tape.street(Texts.town(2, 0, 30, 0) + Texts.house(5) + Texts.place(0, 0, 5));
    Due.each("18 none pushes for the smell", smelly::strongest, -1, -2, NONE, NONE, -2);
    Due.is("18 one pushes 1", Tape.street(Texts.town(2, 0, 30, 0) + Texts.house(0, 0, 1)).strongest(1), 2);
    Due.each("18 without houses", BARE::strongest, -1, -2, NONE, NONE, NONE, NONE, -2);
    Due.outside("18 no such week", 0, 1, x::strongest, -2);
    Due.is("18 no town", NO_TOWN.strongest(0), -2);
  }

  // Promise 19: "-2: there is none such."
  private static void toil() {
    PivotStreet x = Tape.street(Texts.town(20, 0, 1, 0) + "house push 40;".repeat(8));
    Due.each("19 the most", x::toil, -1, -2, 800, 800, 800, 800, 800, 800, 800, 800, -2);
    x.rest(7, 19);
    Due.is("19 one week in", x.toil(7), 760);
    Due.each("19 one week", ring(2, 1)::toil, -1, -2, 10, 0, -2);
    Due.outside("19 no such house", 0, 7, x::toil, -2);
    Due.is("19 who leans toils, too", backwards(2, 4).toil(0), 40);
    Due.is("19 without houses", BARE.toil(0), -2);
    Due.is("19 no town", NO_TOWN.toil(0), -2);
  }

  private static String shone(int houses, int weeks) {
    return Texts.ring(houses, weeks) + Texts.place(0, 1, 0) + Texts.place(1, 5, 0) + Texts.place(2, 20, 0);
  }

  // Promise 20, terms IV: "in WEEKS 0 to that one (behind exchanges of that WEEK)".
  private static void sun() {
    PivotStreet x = Tape.street(shone(3, 4));
    Due.each("20 house 0", w -> x.sun(0, w), -1, -2, 1, 6, 26, 27, 32, -2);
    Due.each("20 house 2", w -> x.sun(2, w), -1, -2, 20, 21, 26, 46, 47, -2);
    Due.each("20 houses", h -> x.sun(h, 0), -1, -2, 1, 5, 20, -2);
    for (int h = 0; h < 3; h++) {
      int house = h;
      Due.outside("20 no such week", 0, 4, w -> x.sun(house, w), -2);
    }
    Due.outside("20 no such house", 0, 2, h -> x.sun(h, 4), -2);
    x.swap(0, 2, 0);
    Due.each("20 behind exchanges of that week", h -> x.sun(h, 0), 0, 20, 5, 1);
    x.undo();
    x.swap(0, 2, 3);
    Due.each("20 up to the exchange as before", h -> x.sun(h, 2), 0, 26, 26, 26);
    Due.each("20 from it on exchanged", h -> x.sun(h, 3), 0, 46, 31, 27);
    Due.is("20 the most", Tape.street(Texts.standing(1, 20) + Texts.place(0, 20, 0)).sun(0, 20), 420);
    Due.is("20 without houses", BARE.sun(0, 0), -2);
    Due.is("20 no town", NO_TOWN.sun(0, 0), -2);
  }

  // Promises 21 and 22: "the first of several. NONE: there are none; -2: there is no TOWN."
  private static void brownAndPale() {
    Due.is("21 no sun at all", standing(3, 4).brown(), 0);
    Due.is("22 no sun at all", standing(3, 4).pale(), 0);
    Due.is("21 the last house", Tape.street(Texts.standing(8, 1) + Texts.place(7, 1, 0)).brown(), 7);
    String most = Texts.standing(3, 1) + Texts.place(0, 2, 0) + Texts.place(1, 3, 0) + Texts.place(2, 3, 0);
    Due.is("21 the first of several", Tape.street(most).brown(), 1);
    String least = Texts.standing(4, 1) + Texts.place(0, 2, 0) + Texts.place(1, 1, 0) + Texts.place(2, 3, 0) + Texts.place(3, 1, 0);
    Due.is("22 the first of several", Tape.street(least).pale(), 1);
    Due.is("22 the last house", Tape.street(Texts.standing(2, 1) + Texts.place(0, 1, 0)).pale(), 1);
    Due.is("21 one house", standing(1, 1).brown(), 0);
    Due.is("22 one house", standing(1, 1).pale(), 0);
    PivotStreet inLast = Tape.street(Texts.ring(3, 1) + Texts.place(2, 1, 0) + Texts.place(0, 2, 0));
    Due.is("21 to the last week: 2, 1 and 3", inLast.brown(), 2);
    Due.is("22 to the last week: 2, 1 and 3", inLast.pale(), 1);
    PivotStreet paleInLast = Tape.street(Texts.ring(3, 1) + Texts.place(1, 6, 0) + Texts.place(2, 5, 0));
    Due.is("22 to the last week: 6, 11 and 5", paleInLast.pale(), 2);
    Due.is("21 there are none", BARE.brown(), NONE);
    Due.is("22 there are none", BARE.pale(), NONE);
    Due.is("21 no town", NO_TOWN.brown(), -2);
    Due.is("22 no town", NO_TOWN.pale(), -2);
  }

  // Promise 23: "SPAN (IV; without HOUSES 0). -2 likewise."
  private static void span() {
    Due.is("23 the most", Tape.street(Texts.standing(2, 20) + Texts.place(1, 20, 0)).span(), 420);
    Due.is("23 the other way", Tape.street(Texts.standing(2, 20) + Texts.place(0, 20, 0)).span(), 420);
    Due.is("23 one house", Tape.street(Texts.standing(1, 20) + Texts.place(0, 20, 0)).span(), 0);
    Due.is("23 quite round", Tape.street(shone(3, 5)).span(), 0);
    Due.is("23 not quite: 32, 51, 47", Tape.street(shone(3, 4)).span(), 19);
    Due.is("23 without houses", BARE.span(), 0);
    Due.is("23 no town", NO_TOWN.span(), -2);
  }

  // Promise 24: "from 1 on"; "NONE: none; -2: there is no TOWN."
  private static void home() {
    Due.is("24 not week 0", standing(3, 4).home(), 1);
    Due.is("24 one house", ring(1, 1).home(), 1);
    Due.is("24 the last week", ring(3, 3).home(), 3);
    Due.is("24 not yet", ring(3, 2).home(), NONE);
    Due.is("24 the first of several", ring(4, 20).home(), 4);
    Due.is("24 eight", ring(8, 8).home(), 8);
    Due.is("24 eight, not yet", ring(8, 7).home(), NONE);
    Due.is("24 back", backwards(3, 20).home(), 3);
    Due.is("24 quite round in one week", Tape.street(Texts.town(2, 0, 10, 0) + Texts.house(20, 0)).home(), 1);
    PivotStreet x = standing(2, 2);
    x.swap(0, 1, 1);
    Due.is("24 exchanged", x.home(), NONE);
    x.swap(1, 0, 1);
    Due.is("24 exchanged back", x.home(), 1);
    PivotStreet one = standing(4, 3);
    one.swap(2, 3, 1);
    Due.is("24 each house, not some", one.home(), NONE);
    Due.is("24 without houses there is none elsewhere", BARE.home(), 1);
    Due.is("24 no town", NO_TOWN.home(), -2);
  }

  // Promise 25: "-2: there is none such."
  private static void sees() {
    Due.each("25 one week", ring(3, 1)::sees, -1, -2, 3, 6, 5, -2);
    Due.each("25 all of eight", ring(8, 7)::sees, 0, 255, 255, 255, 255, 255, 255, 255, 255, -2);
    Due.each("25 all but one", ring(8, 6)::sees, 0, 127, 254, 253, 251, 247, 239, 223, 191);
    Due.each("25 each of two twice", ring(2, 3)::sees, 0, 3, 3, -2);
    Due.each("25 each of three twice", ring(3, 5)::sees, 0, 7, 7, 7, -2);
    Due.each("25 its own alone", standing(3, 20)::sees, 0, 1, 2, 4);
    Due.outside("25 no such house", 0, 2, standing(3, 20)::sees, -2);
    Due.is("25 without houses", BARE.sees(0), -2);
    Due.is("25 no town", NO_TOWN.sees(0), -2);
  }

  // Promise 26: "NONE: in none; -2: there are none such."
  private static void when() {
    PivotStreet x = ring(3, 2);
    Due.each("26 week 0 and the last", p -> x.when(0, p), -1, -2, 0, 1, 2, -2);
    Due.each("26 round", p -> x.when(2, p), -1, -2, 1, 2, 0, -2);
    PivotStreet one = ring(3, 1);
    Due.each("26 in none", p -> one.when(0, p), -1, -2, 0, 1, NONE, -2);
    Due.is("26 the first of several", ring(2, 20).when(0, 1), 1);
    Due.outside("26 no such place", 0, 2, p -> x.when(1, p), -2);
    Due.outside("26 no such house", 0, 2, h -> x.when(h, 1), -2);
    Due.is("26 without houses", BARE.when(0, 0), -2);
    Due.is("26 no town", NO_TOWN.when(0, 0), -2);
  }

  // Promise 27: "round"; "(0: it is the same)"; "-2: there are none such."
  private static void apart() {
    PivotStreet x = ring(3, 2);
    for (int w = 0; w <= 2; w++) {
      int week = w;
      Due.each("27 on from 0", h -> x.apart(0, h, week), -1, -2, 0, 1, 2, -2);
      Due.each("27 on from 2, round", h -> x.apart(2, h, week), -1, -2, 1, 2, 0, -2);
      Due.each("27 on to 0", h -> x.apart(h, 0, week), -1, -2, 0, 2, 1, -2);
      Due.outside("27 no such house", 0, 2, h -> x.apart(h, 1, week), -2);
      Due.outside("27 no such other one", 0, 2, h -> x.apart(1, h, week), -2);
      Due.outside("27 none such, twice", 0, 2, h -> x.apart(h, h, week), -2);
    }
    Due.outside("27 no such week", 0, 2, w -> x.apart(0, 1, w), -2);
    Due.outside("27 no such week, the same", 0, 2, w -> x.apart(1, 1, w), -2);
    x.swap(0, 2, 1);
    Due.each("27 behind an exchange", w -> x.apart(0, 1, w), 0, 1, 2, 2);
    Due.is("27 the most", standing(8, 1).apart(1, 0, 0), 7);
    Due.is("27 without houses", BARE.apart(0, 0, 0), -2);
    Due.is("27 no town", NO_TOWN.apart(0, 0, 0), -2);
  }

  // Promise 28: "In how many WEEKS (0 to the last)".
  private static void often() {
    PivotStreet x = standing(2, 20);
    Due.each("28 always, never", p -> x.often(0, p), -1, -2, 21, 0, -2);
    PivotStreet three = ring(3, 4);
    Due.each("28 week 0 and the last, too", p -> three.often(0, p), -1, -2, 2, 2, 1, -2);
    Due.outside("28 no such place", 0, 2, p -> three.often(0, p), -2);
    Due.outside("28 no such house", 0, 2, h -> three.often(h, 0), -2);
    Due.is("28 without houses", BARE.often(0, 0), -2);
    Due.is("28 no town", NO_TOWN.often(0, 0), -2);
  }

  // Promise 29: "in WEEKS 0 to the last, together".
  private static void nose() {
    PivotStreet x = Tape.street(Texts.town(4, 1, 10, 0) + Texts.house(40, 0, 0) + Texts.place(0, 0, 1) + Texts.place(1, 0, 5) + Texts.place(2, 0, 20));
    Due.each("29 one on each week", x::nose, -1, -2, 32, 51, 47, -2);
    Due.outside("29 no such house", 0, 2, x::nose, -2);
    Due.is("29 the most", Tape.street(Texts.standing(1, 20) + Texts.place(0, 0, 20)).nose(0), 420);
    Due.is("29 nothing told", standing(1, 20).nose(0), 0);
    Due.is("29 without houses", BARE.nose(0), -2);
    Due.is("29 no town", NO_TOWN.nose(0), -2);
  }

  // Promise 30: "-2: there is none such."
  private static void idle() {
    Due.each("30 all but one", ring(3, 2)::idle, -1, -2, 6, 6, -2);
    Due.each("30 all of eight", standing(8, 2)::idle, -1, -2, 255, 255, -2);
    PivotStreet x = Tape.street(Texts.town(2, 0, 30, 0) + Texts.house(1, 1, 1) + Texts.lean(1) + Texts.snow(0));
    Due.each("30 in snow", x::idle, -1, -2, 6, 0, -2);
    x.rest(3, 1);
    Due.each("30 who stays in", x::idle, 0, 6, 8);
    Due.is("30 for the smell", Tape.street(Texts.town(2, 0, 30, 0) + Texts.house(5, 6) + Texts.place(0, 0, 5) + Texts.place(1, 0, 5)).idle(0), 1);
    Due.each("30 without houses", BARE::idle, -1, -2, 0, 0, 0, 0, -2);
    Due.outside("30 no such week", 0, 1, x::idle, -2);
    Due.is("30 no town", NO_TOWN.idle(0), -2);
  }

  // Promise 31: "How many TURNS are below 0. -2: there is no TOWN."
  private static void backs() {
    Due.is("31 all of twenty", backwards(3, 20).backs(), 20);
    Due.is("31 none: on", ring(3, 20).backs(), 0);
    Due.is("31 none: at rest", standing(3, 20).backs(), 0);
    Due.is("31 in even weeks", Tape.street(Texts.town(5, 3, 10, 0) + Texts.lean(10)).backs(), 3);
    Due.is("31 the rest is not below 0", Tape.street(Texts.town(5, 2, 10, 0) + Texts.lean(10) + Texts.house(0, 0)).backs(), 0);
    Due.is("31 less than heavy is cut to 0", Tape.street(Texts.town(5, 0, 10, 0) + Texts.lean(9)).backs(), 0);
    Due.is("31 without houses", BARE.backs(), 0);
    Due.is("31 no town", NO_TOWN.backs(), -2);
  }

  // Promise 32: "beside each other, round. NONE: in none; -2: there are none such, one twice."
  private static void beside() {
    PivotStreet x = ring(4, 20);
    Due.each("32 of 0", h -> x.beside(0, h), -1, -2, -2, 0, NONE, 0, -2);
    Due.each("32 of 3", h -> x.beside(3, h), -1, -2, 0, NONE, 0, -2, -2);
    Due.outside("32 no such house", 0, 3, h -> x.beside(h, 1), -2);
    Due.outside("32 no such other one", 0, 3, h -> x.beside(1, h), -2);
    Due.outside("32 none such, twice", 0, 3, h -> x.beside(h, h), -2);
    Due.each("32 two", h -> ring(2, 2).beside(1, h), 0, 0, -2);
    Due.each("32 three", h -> ring(3, 2).beside(2, h), 0, 0, 0, -2);
    Due.each("32 one", h -> ring(1, 2).beside(0, h), 0, -2, -2);
    Due.is("32 eight, round", ring(8, 2).beside(7, 0), 0);
    Due.is("32 eight, two on", ring(8, 20).beside(6, 0), NONE);
    PivotStreet later = standing(4, 4);
    later.swap(0, 1, 3);
    Due.is("32 by an exchange", later.beside(0, 2), 3);
    PivotStreet farLater = standing(5, 20);
    farLater.swap(0, 1, 10);
    Due.is("32 in a week beyond the houses", farLater.beside(0, 2), 10);
    Due.is("32 more houses than weeks", standing(8, 1).beside(0, 4), NONE);
    Due.is("32 without houses", BARE.beside(0, 1), -2);
    Due.is("32 no town", NO_TOWN.beside(0, 1), -2);
  }

  // Promise 33: "together (those that lean, too). -2: there is none such."
  private static void all() {
    PivotStreet x = Tape.street(Texts.town(2, 0, 30, 0) + Texts.house(1, 2) + Texts.lean(4) + Texts.lean(8) + Texts.snow(1));
    Due.each("33 those that lean, too; in snow", x::all, -1, -2, 15, 9, -2);
    x.rest(3, 1);
    Due.each("33 who stays in", x::all, 0, 15, 1);
    Due.is("33 the most", Tape.street(Texts.town(20, 0, 1, 0) + "house push 40 leans;".repeat(8)).all(19), 320);
    Due.each("33 none", standing(2, 2)::all, -1, -2, 0, 0, -2);
    Due.each("33 without houses", BARE::all, -1, -2, 0, 0, 0, 0, -2);
    Due.outside("33 no such week", 0, 1, x::all, -2);
    Due.is("33 no town", NO_TOWN.all(0), -2);
  }

  // Promise 34: "the first of several. NONE: there are none; -2: there is no such WEEK, no TOWN."
  private static void noon() {
    Due.each("34 no sun at all", standing(3, 2)::noon, -1, -2, 0, 0, 0, -2);
    Due.each("34 one place", Tape.street(Texts.ring(3, 4) + Texts.place(2, 5, 0))::noon, -1, -2, 2, 1, 0, 2, 1, -2);
    Due.each("34 the first of several", Tape.street(Texts.ring(3, 4) + Texts.place(2, 5, 0) + Texts.place(1, 5, 0))::noon, 0, 1, 0, 0, 1, 0);
    Due.each("34 without houses", BARE::noon, -1, -2, NONE, NONE, NONE, NONE, NONE, -2);
    Due.outside("34 no such week", 0, 2, standing(3, 2)::noon, -2);
    Due.each("34 no town", NO_TOWN::noon, -1, -2, -2, -2);
  }

  // Promise 35: "round, in a WEEK (it, too, if there is no other one)".
  private static void mates() {
    Due.each("35 one", w -> ring(1, 1).mates(0, w), -1, -2, 1, 1, -2);
    Due.each("35 two", h -> ring(2, 1).mates(h, 1), -1, -2, 2, 1, -2);
    Due.each("35 three", h -> ring(3, 1).mates(h, 0), -1, -2, 6, 5, 3, -2);
    Due.each("35 four", h -> ring(4, 1).mates(h, 1), -1, -2, 10, 5, 10, 5, -2);
    Due.each("35 eight", h -> ring(8, 1).mates(h, 1), 0, 130, 5, 10, 20, 40, 80, 160, 65, -2);
    PivotStreet x = standing(4, 2);
    x.swap(0, 1, 1);
    Due.each("35 behind an exchange", h -> x.mates(h, 1), 0, 6, 9, 9, 6);
    Due.outside("35 no such week", 0, 2, w -> x.mates(0, w), -2);
    Due.outside("35 no such house", 0, 3, h -> x.mates(h, 0), -2);
    Due.is("35 without houses", BARE.mates(0, 0), -2);
    Due.is("35 no town", NO_TOWN.mates(0, 0), -2);
  }

  // Promise 36: "half of the PLACES (cut) further on, round".
  private static void view() {
    Due.each("36 one", w -> ring(1, 1).view(0, w), -1, -2, 0, 0, -2);
    Due.each("36 two", h -> ring(2, 1).view(h, 1), -1, -2, 1, 0, -2);
    Due.each("36 three, cut", h -> ring(3, 1).view(h, 1), -1, -2, 1, 2, 0, -2);
    Due.each("36 four", h -> ring(4, 1).view(h, 0), -1, -2, 2, 3, 0, 1, -2);
    Due.each("36 seven, cut", h -> ring(7, 1).view(h, 1), 0, 3, 4, 5, 6, 0, 1, 2, -2);
    Due.each("36 eight", h -> ring(8, 1).view(h, 1), 0, 4, 5, 6, 7, 0, 1, 2, 3, -2);
    PivotStreet x = standing(3, 2);
    x.swap(0, 1, 0);
    Due.each("36 behind an exchange", h -> x.view(h, 0), 0, 2, 0, 1);
    Due.outside("36 no such week", 0, 2, w -> x.view(0, w), -2);
    Due.outside("36 no such house", 0, 2, h -> x.view(h, 0), -2);
    Due.is("36 without houses", BARE.view(0, 0), -2);
    Due.is("36 no town", NO_TOWN.view(0, 0), -2);
  }

  // Promise 37: "The WEEK (0 to the last)"; "the first of several".
  private static void best() {
    Due.each("37 no sun", ring(3, 4)::best, -1, -2, 0, 0, 0, -2);
    Due.each("37 the last week", Tape.street(Texts.ring(3, 2) + Texts.place(2, 5, 0))::best, -1, -2, 2, 1, 0, -2);
    Due.each("37 the first of several", Tape.street(Texts.ring(3, 4) + Texts.place(1, 5, 0) + Texts.place(2, 5, 0))::best, -1, -2, 1, 0, 0, -2);
    String suns = Texts.place(0, 3, 0) + Texts.place(1, 1, 0) + Texts.place(2, 4, 0) + Texts.place(3, 1, 0) + Texts.place(4, 5, 0);
    Due.each("37 back from place to place", Tape.street(Texts.backwards(5, 4) + suns)::best, 0, 1, 2, 3, 4, 0, -2);
    Due.outside("37 no such house", 0, 2, ring(3, 4)::best, -2);
    Due.is("37 without houses", BARE.best(0), -2);
    Due.is("37 no town", NO_TOWN.best(0), -2);
  }

  // Promise 38: "its PLACE has more sun than smell. -2 likewise."
  private static void sweet() {
    PivotStreet x = Tape.street(Texts.standing(4, 4) + Texts.place(0, 5, 5) + Texts.place(1, 5, 4) + Texts.place(2, 4, 5));
    Due.each("38 as much is not more", x::sweet, -1, -2, 0, 5, 0, 0, -2);
    Due.each("38 round", Tape.street(Texts.ring(3, 4) + Texts.place(1, 1, 0))::sweet, -1, -2, 2, 2, 1, -2);
    String smells = Texts.place(0, 5, 9) + Texts.place(1, 5, 1) + Texts.place(2, 5, 5);
    PivotStreet round = Tape.street(Texts.town(4, 0, 30, 0) + Texts.house(40, 0, 0) + smells);
    Due.each("38 by where it is, not by where it was", round::sweet, 0, 2, 2, 1, -2);
    Due.outside("38 no such house", 0, 3, x::sweet, -2);
    Due.is("38 without houses", BARE.sweet(0), -2);
    Due.is("38 no town", NO_TOWN.sweet(0), -2);
  }

  // Promise 39: "The last WEEK in which it is at its PLACE of WEEK 0. -2 likewise."
  private static void last() {
    Due.each("39 the last week", ring(3, 3)::last, -1, -2, 3, 3, 3, -2);
    Due.each("39 week 0 alone", ring(3, 2)::last, -1, -2, 0, 0, 0, -2);
    Due.each("39 the one ahead of the last", ring(3, 4)::last, -1, -2, 3, 3, 3, -2);
    Due.each("39 week 1", standing(2, 1)::last, -1, -2, 1, 1, -2);
    Due.each("39 always", standing(2, 20)::last, -1, -2, 20, 20, -2);
    Due.outside("39 no such house", 0, 2, ring(3, 4)::last, -2);
    Due.is("39 without houses", BARE.last(0), -2);
    Due.is("39 no town", NO_TOWN.last(0), -2);
  }

  // Promise 40: "-2: there is none such, no TOWN."
  private static void same() {
    Due.each("40 week 0 and the last", ring(3, 3)::same, -1, -2, 7, 0, 0, 7, -2);
    PivotStreet x = standing(3, 3);
    x.swap(0, 1, 2);
    Due.each("40 some", x::same, -1, -2, 7, 7, 4, 4, -2);
    Due.each("40 without houses", BARE::same, -1, -2, 0, 0, 0, 0, 0, -2);
    Due.outside("40 no such week", 0, 3, x::same, -2);
    Due.each("40 no town", NO_TOWN::same, -1, -2, -2, -2);
  }

  // Promise 41: "WEEKS ahead of the last in which the HOUSE at a PLACE pushes nothing, as bits."
  private static void loose() {
    Due.each("41 ahead of the last", ring(3, 4)::loose, -1, -2, 6, 13, 11, -2);
    Due.is("41 all of twenty", standing(1, 20).loose(0), (1 << 20) - 1);
    Due.is("41 none", ring(1, 20).loose(0), 0);
    Due.outside("41 no such place", 0, 2, ring(3, 4)::loose, -2);
    Due.is("41 without houses", BARE.loose(0), -2);
    Due.is("41 no town", NO_TOWN.loose(0), -2);
  }

  // Promise 42: "HOUSES of most SUN to the last WEEK, as bits. -2: there is no TOWN."
  private static void gold() {
    Due.is("42 all of eight", standing(8, 4).gold(), 255);
    Due.is("42 one", Tape.street(Texts.standing(3, 4) + Texts.place(1, 1, 0)).gold(), 2);
    Due.is("42 two", Tape.street(Texts.standing(3, 4) + Texts.place(1, 1, 0) + Texts.place(2, 1, 0)).gold(), 6);
    Due.is("42 by the last week", Tape.street(Texts.ring(3, 1) + Texts.place(0, 3, 0) + Texts.place(2, 3, 0)).gold(), 4);
    Due.is("42 without houses", BARE.gold(), 0);
    Due.is("42 no town", NO_TOWN.gold(), -2);
  }

  // Promises 43 to 46: a LETTER's WEEK and PLACE that there are, and that there are not.
  private static void letters() {
    int[][] told = {{0, 0, 0}, {0, 0, 1}, {0, 1, 1}, {0, 1, 2}, {0, 0, 4}, {0, 1, 5}, {0, 3, 0}, {2, 7, 19}};
    StringBuilder text = new StringBuilder(Texts.ring(3, 4));
    for (int[] letter : told) text.append(Texts.letter(letter[0], letter[1], letter[2]));
    PivotStreet x = Tape.street(text.toString());
    Due.each("43 from its week on", x::late, -1, -2, 0, 3, 1, 4, NONE, NONE, NONE, NONE, -2);
    Due.each("44 in its week", x::right, -1, -2, 1, 0, 1, 0, 0, 0, 0, 0, -2);
    Due.is("45 some", x.rights(), 5);
    Due.each("46 who has it", x::wrong, -1, -2, NONE, 2, NONE, 2, 2, NONE, NONE, NONE, -2);
    Due.outside("43 no such letter", 0, 7, x::late, -2);
    Due.outside("44 no such letter", 0, 7, x::right, -2);
    Due.outside("46 no such letter", 0, 7, x::wrong, -2);
    Due.is("45 all of eight", Tape.street(Texts.standing(1, 1) + "letter 0 to 0 at 1;".repeat(8)).rights(), 255);
    Due.is("45 in the last week, not behind it", Tape.street(Texts.standing(1, 1) + Texts.letter(0, 0, 2) + Texts.letter(0, 0, 1)).rights(), 2);
    Due.is("45 week 19 of twenty", Tape.street(Texts.ring(8, 20) + Texts.letter(5, 0, 19) + Texts.letter(5, 1, 19)).rights(), 1);
    PivotStreet behind = Tape.street(Texts.standing(2, 1) + Texts.letter(1, 0, 2) + Texts.letter(0, 1, 2));
    Due.each("46 no such week", behind::wrong, 0, NONE, NONE, -2);
    PivotStreet one = Tape.street(Texts.standing(8, 1) + Texts.letter(0, 7, 1));
    Due.is("46 a house beyond the weeks and the letters", one.wrong(0), 7);
    PivotStreet none = standing(2, 2);
    Due.is("45 no letters", none.rights(), 0);
    Due.each("43 no letters", none::late, -1, -2, -2);
    Due.each("44 no letters", none::right, -1, -2, -2);
    Due.each("46 no letters", none::wrong, -1, -2, -2);
    Due.is("45 without houses", BARE.rights(), 0);
    Due.is("45 no town", NO_TOWN.rights(), -2);
  }

  // A town of few WEEKS behind one of many: nothing is there behind its last WEEK.
  private static void behindTheLastWeek() {
    String[] longer = {Texts.standing(8, 20), Texts.ring(8, 20), Texts.backwards(8, 20), Texts.town(20, 0, 1, 0) + "house push 40 leans;".repeat(8)};
    for (String text : longer) {
      Due.is("21 9, 1 and 10", behind(text, Texts.ring(3, 1) + Texts.place(0, 9, 0) + Texts.place(2, 1, 0)).brown(), 2);
      Due.is("22 6, 11 and 5", behind(text, Texts.ring(3, 1) + Texts.place(1, 6, 0) + Texts.place(2, 5, 0)).pale(), 2);
      Due.is("24 not yet", behind(text, Texts.ring(3, 2)).home(), NONE);
      PivotStreet x = behind(text, Texts.ring(3, 1) + Texts.place(2, 5, 0) + Texts.letter(0, 2, 2) + Texts.letter(0, 0, 2));
      Due.each("37 best", x::best, 0, 0, 1, 0);
      Due.each("38 sweet", x::sweet, 0, 0, 1, 1);
      Due.each("39 last", x::last, 0, 0, 0, 0);
      Due.each("25 sees", x::sees, 0, 3, 6, 5);
      Due.each("26 when", p -> x.when(0, p), 0, 0, 1, NONE);
      Due.each("28 often", p -> x.often(0, p), 0, 1, 1, 0);
      Due.each("43 late", x::late, 0, NONE, NONE);
      Due.each("46 wrong", x::wrong, 0, NONE, NONE);
      Due.is("45 rights", x.rights(), 0);
      Due.is("23 span: 0, 5 and 5", x.span(), 5);
      Due.is("42 gold", x.gold(), 6);
      Due.is("16 jerk", x.jerk(), 0);
      Due.is("17 still", x.still(), 0);
      Due.is("31 backs", x.backs(), 0);
      Due.each("41 loose", x::loose, 0, 0, 1, 1);
      Due.each("19 toil", x::toil, 0, 10, 0, 0);
    }
  }

  private static PivotStreet behind(String longer, String text) {
    PivotStreet x = Tape.street(longer);
    Tape.town(x, text);
    return x;
  }
}
