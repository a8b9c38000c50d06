/** What a street answers about itself, as one text: two streets of one state answer alike. */
final class State {
  private State() {}

  static String of(PivotStreet x) {
    StringBuilder text = new StringBuilder();
    for (int what = 0; what < 12; what++) text.append(x.count(what)).append(' ');
    text.append("| ").append(x.snows()).append(' ').append(x.span()).append(' ').append(x.rights());
    int houses = x.count(4);
    int weeks = x.count(0);
    for (int h = 0; h < houses; h++) {
      text.append(" h").append(x.house(h, 0)).append('/').append(x.house(h, 1)).append('/').append(x.place(h, 0)).append('/').append(x.place(h, 1));
      text.append('/').append(x.toil(h)).append('/').append(x.sun(h, weeks)).append('/').append(x.at(h, 0)).append('/').append(x.at(h, weeks));
    }
    for (int l = 0; l < x.count(7); l++) text.append(" l").append(x.letter(l, 0)).append('/').append(x.letter(l, 1)).append('/').append(x.letter(l, 2));
    for (int w = 0; w < weeks; w++) text.append(" w").append(x.force(w)).append('/').append(x.turn(w));
    for (int slot = 0; slot < 4; slot++) text.append(" s").append(x.leans(slot)).append('/').append(x.gate(slot));
    return text.toString();
  }

  /** Nearly all that can be asked of a small town, what could be included; fewer than 512 calls for three houses. */
  static String wide(PivotStreet x) {
    StringBuilder text = new StringBuilder();
    int houses = x.count(4);
    int weeks = x.count(0);
    add(text, "whole", x.snows(), x.jerk(), x.still(), x.brown(), x.pale(), x.span(), x.home(), x.backs(), x.gold(), x.rights());
    add(text, "could", x.fair(), x.by(2), x.post(), x.by(3), x.law(), x.by(1), x.trade(), x.by(0), x.trades());
    for (int w = 0; w <= weeks; w++) {
      add(text, "week", x.stands(w), x.noon(w), x.same(w), x.force(w), x.turn(w), x.strongest(w), x.idle(w), x.all(w), x.moves(w), x.stay(w, 1), x.stays(w, 0));
      for (int h = 0; h < houses; h++) add(text, "at", x.at(h, w), x.who(h, w), x.sun(h, w), x.mates(h, w), x.view(h, w), x.pushes(h, w), x.mean(h, w, 0));
    }
    for (int h = 0; h < houses; h++) {
      add(text, "house", x.toil(h), x.sees(h), x.nose(h), x.best(h), x.sweet(h), x.last(h), x.loose(h), x.share(h, 0), x.share(h, 1));
      for (int p = 0; p < houses; p++) add(text, "pair", x.when(h, p), x.often(h, p), x.beside(h, p), x.apart(h, p, weeks), x.rests(h, p), x.gets(h, p, 0, 1), x.chance(h, p, 0, 0));
    }
    for (int l = 0; l < x.count(7); l++) add(text, "letter", x.late(l), x.right(l), x.wrong(l), x.luck(5, 9, l));
    add(text, "drawn", x.drawn(3, 0), x.drawn(3, 1), x.drawn(3, 2), x.worth(1), x.worth((1 << houses) - 1));
    add(text, "seen", x.leans(0), x.surely(0), x.never(0), x.ask(0), x.leaves(0), x.gate(0), x.laws(0));
    return text.toString();
  }

  private static void add(StringBuilder text, String what, long... answers) {
    text.append(' ').append(what);
    for (long answer : answers) text.append(' ').append(answer);
  }
}
