/** Lines of a town's text, and towns that are easy to follow by hand. */
final class Texts {
  private Texts() {}

  static String town(int weeks, int law, int heavy, int odds) {
    return "town weeks " + weeks + " law " + law + " heavy " + heavy + " odds " + odds + ";";
  }

  static String house(int... pushes) {
    StringBuilder text = new StringBuilder();
    for (int push : pushes) text.append("house push ").append(push).append(";");
    return text.toString();
  }

  static String lean(int push) {
    return "house push " + push + " leans;";
  }

  static String place(int place, int sun, int smell) {
    return "place " + place + " sun " + sun + " smell " + smell + ";";
  }

  static String snow(int... weeks) {
    StringBuilder text = new StringBuilder();
    for (int week : weeks) text.append("snow at ").append(week).append(";");
    return text.toString();
  }

  static String letter(int house, int place, int week) {
    return "letter " + house + " to " + place + " at " + week + ";";
  }

  /** House 0 alone pushes, just as hard as the street is heavy: all go one on each week. */
  static String ring(int houses, int weeks) {
    return town(weeks, 0, 10, 5) + house(10) + "house push 0;".repeat(houses - 1);
  }

  /** As the ring, but one back each week. */
  static String backwards(int houses, int weeks) {
    return town(weeks, 0, 10, 5) + lean(10) + "house push 0;".repeat(houses - 1);
  }

  /** No house pushes: the street stands. */
  static String standing(int houses, int weeks) {
    return town(weeks, 0, 10, 5) + "house push 0;".repeat(houses);
  }
}
