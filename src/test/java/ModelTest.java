import java.lang.reflect.Method;
import java.util.ArrayList;
import java.util.Arrays;
import java.util.Comparator;
import java.util.List;
import java.util.Random;

/** Long runs of calls by a fixed seed, each held against StreetModel. */
public final class ModelTest {
  private static final int RUNS = 400;
  private static final int CALLS = 480;
  private static final int LAST_CALL = 512;
  private final Random random;
  private final PivotStreet street = new PivotStreet();
  private final StreetModel model = new StreetModel();
  private final List<String> log = new ArrayList<>();
  private static int wrong = 0;
  private static int[] answered;
  private static Method[] methods;
  private static Method[] twins;

  private ModelTest(long seed) {
    random = new Random(seed);
  }

  public static void main(String[] args) throws Exception {
    methods = Arrays.stream(PivotStreet.class.getDeclaredMethods())
        .filter(m -> java.lang.reflect.Modifier.isPublic(m.getModifiers()))
        .sorted(Comparator.comparing(Method::getName)).toArray(Method[]::new);
    if (methods.length != 80) throw new IllegalStateException("the face has " + methods.length + " methods");
    twins = new Method[methods.length];
    answered = new int[methods.length];
    for (int i = 0; i < methods.length; i++) {
      twins[i] = StreetModel.class.getMethod(methods[i].getName(), methods[i].getParameterTypes());
    }
    int runs = args.length > 0 ? Integer.parseInt(args[0]) : RUNS;
    for (int run = 0; run < runs && wrong == 0; run++) new ModelTest(run).run();
    for (int i = 0; i < methods.length; i++) {
      if (answered[i] < 30) {
        System.out.println(methods[i].getName() + " was answered in full " + answered[i] + " times only");
        wrong++;
      }
    }
    System.out.println(wrong == 0 ? "the class answers as the model does" : wrong + " answers differ");
    if (wrong != 0) System.exit(1);
  }

  private void run() throws Exception {
    for (int i = 0; i < CALLS && wrong == 0; i++) {
      int dice = random.nextInt(100);
      if (i == 2 || dice < 1) text(townText());
      else if (dice < 2) text(spoilt(townText()));
      else if (dice < 6) seenRow();
      else call(methods[random.nextInt(methods.length)]);
    }
  }

  private void call(Method m) throws Exception {
    // Calls that take the town away are made seldom, so that most calls find one.
    if ((m.getName().equals("town") || m.getName().equals("feed")) && random.nextInt(20) > 0) return;
    if (m.getName().equals("back") && random.nextInt(4) > 0) return;
    Class<?>[] types = m.getParameterTypes();
    Object[] args = new Object[types.length];
    for (int i = 0; i < args.length; i++) {
      if (types[i] == long.class) args[i] = random.nextInt(6) == 0 ? random.nextLong() >> random.nextInt(60) : (long) argument(m.getName(), i);
      else args[i] = argument(m.getName(), i);
    }
    check(m, args);
  }

  private void check(Method m, Object... args) throws Exception {
    // What an object answers behind its 512th call is free.
    if (log.size() >= LAST_CALL) return;
    int k = Arrays.asList(methods).indexOf(m);
    log.add(m.getName() + Arrays.toString(args));
    Object got = m.invoke(street, args);
    Object due = twins[k].invoke(model, args);
    long value = ((Number) due).longValue();
    if (value >= 0 || value == -1) answered[k]++;
    if (!got.equals(due)) {
      wrong++;
      System.out.println(String.join("\n", log));
      System.out.println("answered " + got + ", due is " + due);
    }
  }

  private void check(String name, Object... args) throws Exception {
    for (Method m : methods) if (m.getName().equals(name)) check(m, args);
  }

  private int argument(String name, int i) {
    int dice = random.nextInt(60);
    if (dice == 0) return random.nextInt();
    if (dice == 1) return -1;
    if (dice == 2) return random.nextBoolean() ? Integer.MIN_VALUE : Integer.MAX_VALUE;
    String key = name + i;
    switch (key) {
      case "drawn0": case "luck0":
        return random.nextInt(10) == 0 ? 2000000000 + random.nextInt(3) - 1 : random.nextInt(2000000001);
      case "luck1": return random.nextInt(22);
      case "rate1": return random.nextInt(42);
      case "stay1": case "stays1": return random.nextInt(8) == 0 ? random.nextInt(805) - 402 : random.nextInt(9) - 3;
      case "worth0": return random.nextInt(1 << Math.max(0, model.count(4))) + (random.nextInt(10) == 0 ? 1 : 0);
      case "count0": return random.nextInt(13);
      case "row2": return random.nextInt(6) == 0 ? random.nextInt(64) - 2 : random.nextInt(7);
      case "write2": return random.nextInt(3) == 0 ? random.nextInt() : random.nextInt(9) - 2;
      case "end0": return random.nextInt(45);
      default: break;
    }
    if (key.matches("(house|place|chance|mean|share|gets|fault|letter)[123]") && !key.equals("chance1") && !key.equals("gets1") && !key.equals("mean1") && !key.equals("chance2")) {
      return random.nextInt(12) == 0 ? random.nextInt(5) : random.nextInt(2);
    }
    if (name.equals("chance") && i == 2 || name.equals("mean") && i == 1) return random.nextInt(9);
    int houses = Math.max(1, model.count(4));
    int weeks = Math.max(1, model.count(0));
    boolean week = key.matches("(force|turn|stands|strongest|idle|all|noon|same|moves|stay|stays)0|(at|who|pushes|sun|mates|view|rest)1|(apart|swap)2");
    if (week) return random.nextInt(weeks + 2);
    if (random.nextInt(5) == 0) return random.nextInt(12);
    return random.nextInt(houses);
  }

  private void text(String text) throws Exception {
    check("end", 0);
    for (int from = 0; from < text.length(); from += 20) {
      check("feed", Tape.word(text, from), Tape.word(text, from + 4), Tape.word(text, from + 8), Tape.word(text, from + 12), Tape.word(text, from + 16));
    }
    check("end", Math.min(800, text.length()));
    check("town");
    check("fault", 0);
    check("fault", 1);
    check("count", 10);
  }

  /** A row as leans or gate want it, mostly of what is so. */
  private void seenRow() throws Exception {
    if (model.count(9) == 0) return;
    int slot = random.nextInt(4);
    int pairs = random.nextInt(4);
    boolean places = random.nextBoolean() && model.count(4) > 0;
    check("row", slot, 1 + random.nextInt(3), 2 * pairs);
    for (int i = 0; i < pairs; i++) {
      int week = random.nextInt(model.count(0));
      int value = places ? model.at(random.nextInt(Math.min(2, model.count(4))), week) : model.turn(week);
      if (random.nextInt(6) == 0) value += random.nextInt(3) - 1;
      check("write", slot, 2 * i, (long) week);
      check("write", slot, 2 * i + 1, (long) value);
    }
    String[] names = places ? new String[] {"gate", "laws"} : new String[] {"leans", "surely", "never", "ask", "leaves"};
    for (String name : names) check(name, slot);
  }

  private String townText() {
    StringBuilder text = new StringBuilder();
    line(text, "town weeks " + (1 + random.nextInt(random.nextInt(4) == 0 ? 20 : 6)) + " law " + random.nextInt(4) + " heavy " + (1 + random.nextInt(random.nextBoolean() ? 30 : 9)) + " odds " + random.nextInt(11));
    int houses = random.nextInt(12) == 0 ? random.nextInt(9) : random.nextInt(6);
    for (int i = 0; i < houses; i++) line(text, "house push " + random.nextInt(41) + (random.nextInt(3) == 0 ? " leans" : ""));
    for (int i = random.nextInt(11); i > 0; i--) line(text, "place " + random.nextInt(8) + " sun " + random.nextInt(21) + " smell " + random.nextInt(random.nextBoolean() ? 21 : 4));
    for (int i = random.nextInt(5); i > 0; i--) line(text, "snow at " + random.nextInt(random.nextInt(3) == 0 ? 20 : 4));
    for (int i = random.nextInt(9); i > 0 && houses > 0; i--) line(text, "letter " + random.nextInt(houses) + " to " + random.nextInt(random.nextInt(3) == 0 ? 8 : houses) + " at " + random.nextInt(random.nextInt(3) == 0 ? 20 : 5));
    return text.toString();
  }

  private void line(StringBuilder text, String line) {
    for (String part : line.split(" ")) {
      int dice = random.nextInt(30);
      text.append(dice == 0 ? "\n" : dice == 1 ? "  " : " ").append(dice == 2 && part.matches("[0-9]+") ? "00" + part : part);
    }
    text.append(random.nextInt(10) == 0 ? " ;" : ";");
  }

  private String spoilt(String good) {
    StringBuilder text = new StringBuilder(good);
    String[] bits = {"house", "town", "place 3 sun 2 smell 1;", "snow at 3;", "letter 0 to 1 at 2;", "house push 3;", "41", "99999999999999999999", ";", "leans", "\t", "A", "-", "\u00e9", "\0", "to", " ", "7", "x"};
    for (int i = 1 + random.nextInt(2); i > 0; i--) {
      int at = random.nextInt(text.length() + 1);
      int dice = random.nextInt(4);
      if (dice == 0) text.setLength(at);
      else if (dice == 1 && at < text.length()) text.deleteCharAt(at);
      else {
        String bit = bits[random.nextInt(bits.length)];
        for (int k = random.nextInt(3) == 0 ? random.nextInt(12) : 1; k > 0; k--) text.insert(at, bit);
      }
    }
    return text.length() > 800 ? text.substring(0, 800) : text.toString();
  }
}
