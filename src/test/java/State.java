/** What a street answers about itself, as one text: two streets of one state answer alike. */
final class State {
  private State() {}

  static String of(PivotStreet x) {
    StringBuilder text = new StringBuilder();
    for (int what = 0; what < 12; what++) text.append(x.count(what)).append(' ');
    text.append("| ").append(x.snows()).append(' ').append(x.span()).append(' ').append(x.rights());
    int houses = x.count(4);
    int weeks = x.count(0);
    for (int h = 0; h < houses; h++) {
      text.append(" h").append(x.house(h, 0)).append('/').append(x.house(h, 1)).append('/').append(x.place(h, 0)).append('/').append(x.place(h, 1));
      text.append('/').append(x.toil(h)).append('/').append(x.sun(h, weeks)).append('/').append(x.at(h, 0)).append('/').append(x.at(h, weeks));
    }
    for (int l = 0; l < x.count(7); l++) text.append(" l").append(x.letter(l, 0)).append('/').append(x.letter(l, 1)).append('/').append(x.letter(l, 2));
    for (int w = 0; w < weeks; w++) text.append(" w").append(x.force(w)).append('/').append(x.turn(w));
    for (int slot = 0; slot < 4; slot++) text.append(" s").append(x.leans(slot)).append('/').append(x.gate(slot));
    return text.toString();
  }
}
