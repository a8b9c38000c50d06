/** Puts a text on the tape of a street, in twenties, as a caller does. */
final class Tape {
  private Tape() {}

  static void put(PivotStreet street, String text) {
    int before = street.count(10);
    for (int from = 0; from < text.length(); from += 20) {
      street.feed(word(text, from), word(text, from + 4), word(text, from + 8), word(text, from + 12), word(text, from + 16));
    }
    street.end(before + text.length());
  }

  static int town(PivotStreet street, String text) {
    put(street, text);
    return street.town();
  }

  static PivotStreet street(String text) {
    PivotStreet street = new PivotStreet();
    town(street, text);
    return street;
  }

  static int word(String text, int from) {
    int word = 0;
    for (int i = from; i < from + 4; i++) {
      word = word << 8 | (i < text.length() ? text.charAt(i) & 255 : 0);
    }
    return word;
  }
}
