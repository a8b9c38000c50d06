import java.util.function.IntToLongFunction;

/** Counts answers that are not as due, and tells them. */
final class Due {
  private static int wrong = 0;
  private static int checks = 0;

  private Due() {}

  static void is(String what, long got, long want) {
    checks++;
    if (got != want) tell(what + " answered " + got + ", due is " + want);
  }

  static void is(String what, String got, String want) {
    checks++;
    if (!got.equals(want)) tell(what + "\n  is  " + got + "\n  due " + want);
  }

  /** A call of each number from the first on. */
  static void each(String what, IntToLongFunction call, int first, long... want) {
    for (int i = 0; i < want.length; i++) is(what + " of " + (first + i), call.applyAsLong(first + i), want[i]);
  }

  /** Numbers just outside of least .. most, and far outside: the refusal is due for all. */
  static void outside(String what, int least, int most, IntToLongFunction call, long refusal) {
    int[] beyond = {least - 1, most + 1, least - 100, most + 100, Integer.MIN_VALUE, Integer.MAX_VALUE};
    for (int n : beyond) is(what + " of " + n, call.applyAsLong(n), refusal);
  }

  private static void tell(String line) {
    wrong++;
    System.out.println(line);
  }

  static void finish() {
    System.out.println(wrong == 0 ? "all " + checks + " answers are as due" : wrong + " answers are not as due");
    if (wrong != 0) System.exit(1);
  }
}
