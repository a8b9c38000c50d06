import java.math.BigInteger;
import java.util.ArrayList;
import java.util.Arrays;
import java.util.HashMap;
import java.util.List;
import java.util.Map;
import java.util.TreeMap;
import java.util.TreeSet;
import java.util.function.IntPredicate;
import java.util.regex.Matcher;
import java.util.regex.Pattern;

/** The document told a second time, with lists and whole searches, to hold the class against. */
public final class StreetModel {
  static final class Town {
    int weeks, law, heavy, odds, placeLines, lines;
    List<Integer> push = new ArrayList<>();
    TreeSet<Integer> leaning = new TreeSet<>();
    int[][] places = new int[8][2];
    List<Integer> snows = new ArrayList<>();
    List<int[]> letters = new ArrayList<>();
    List<int[]> acts = new ArrayList<>(); // week, house, other or -1

    Town copy() {
      Town t = new Town();
      t.weeks = weeks;
      t.law = law;
      t.heavy = heavy;
      t.odds = odds;
      t.placeLines = placeLines;
      t.lines = lines;
      t.push.addAll(push);
      t.leaning.addAll(leaning);
      for (int i = 0; i < 8; i++) t.places[i] = places[i].clone();
      t.snows.addAll(snows);
      t.letters.addAll(letters);
      t.acts.addAll(acts);
      return t;
    }

    int houses() {
      return push.size();
    }
  }

  /** What a year is asked by; what isn't set is as told. */
  final class Ask {
    int law = town.law;
    int heavy = town.heavy;
    IntPredicate leaning = h -> town.leaning.contains(h);
    IntPredicate snowy = w -> town.snows.contains(w);
    IntPredicate stays = h -> false;
    int[] ahead = null;

    World go() {
      return new World(this);
    }
  }

  final class World {
    int[][] at;
    int[][] push;
    int[] force;
    int[] turn;

    World(Ask ask) {
      int n = town.houses();
      at = new int[town.weeks + 1][n];
      push = new int[town.weeks][n];
      force = new int[town.weeks];
      turn = new int[town.weeks];
      List<Integer> street = new ArrayList<>(); // by place
      for (int h = 0; h < n; h++) street.add(h);
      if (ask.ahead != null) exchange(street, ask.ahead[0], ask.ahead[1]);
      for (int w = 0; w <= town.weeks; w++) {
        for (int[] act : town.acts) if (act[0] == w && act[2] >= 0) exchange(street, act[1], act[2]);
        for (int h = 0; h < n; h++) at[w][h] = street.indexOf(h);
        if (w == town.weeks) break;
        for (int h = 0; h < n; h++) {
          boolean in = ask.stays.test(h);
          for (int[] act : town.acts) in |= act[0] == w && act[2] < 0 && act[1] == h;
          if (ask.snowy.test(w) && at[w][h] != 0 && at[w][h] != n - 1) in = true;
          int p = town.push.get(h) - town.places[at[w][h]][1];
          push[w][h] = in || p < 0 ? 0 : p;
          force[w] += ask.leaning.test(h) ? -push[w][h] : push[w][h];
        }
        turn[w] = turned(ask.law, ask.heavy, force[w], w);
        for (int i = 0; i < Math.abs(turn[w]); i++) {
          if (turn[w] > 0) street.add(0, street.remove(n - 1));
          else street.add(street.remove(0));
        }
      }
    }

    int sun(int h, int week) {
      int s = 0;
      for (int w = 0; w <= week; w++) s += town.places[at[w][h]][0];
      return s;
    }

    int span() {
      TreeSet<Integer> all = new TreeSet<>();
      for (int h = 0; h < town.houses(); h++) all.add(sun(h, town.weeks));
      return all.isEmpty() ? 0 : all.last() - all.first();
    }

    int rights() {
      int bits = 0;
      for (int l = 0; l < town.letters.size(); l++) {
        int[] x = town.letters.get(l);
        if (x[2] <= town.weeks && at[x[2]][x[0]] == x[1]) bits += 1 << l;
      }
      return bits;
    }
  }

  private static void exchange(List<Integer> street, int a, int b) {
    int i = street.indexOf(a);
    int j = street.indexOf(b);
    street.set(i, b);
    street.set(j, a);
  }

  private int turned(int law, int heavy, int force, int week) {
    if (law == 1) return force >= heavy ? 1 : force <= -heavy ? -1 : 0;
    if (law == 2) {
      int n = town.houses();
      if (n == 0) return 0;
      int r = force;
      while (r < 0) r += n;
      while (r >= n) r -= n;
      return r;
    }
    if (law == 3 && week % 2 == 1) return 0;
    int q = Math.abs(force) / heavy;
    return force < 0 ? -q : q;
  }

  private final List<Integer> tape = new ArrayList<>();
  private Town town = null;
  private int fault = 0;
  private int faultAt = -1;
  private final boolean[] kept = new boolean[3];
  private final Town[] images = new Town[3];
  private final List<List<Long>> rows = new ArrayList<>(Arrays.asList(null, null, null, null));
  private final int[] widths = new int[4];

  private World told() {
    return new Ask().go();
  }

  // ---- text

  public int feed(int a, int b, int c, int d, int e) {
    if (tape.size() + 20 > 800) return -1;
    for (int v : new int[] {a, b, c, d, e}) {
      for (int i = 3; i >= 0; i--) tape.add(v >> 8 * i & 255);
    }
    return tape.size();
  }

  public int end(int n) {
    if (n < 0 || n > tape.size()) return -1;
    while (tape.size() > n) tape.remove(tape.size() - 1);
    return n;
  }

  private static final String[][] LINES = {
    {"town", "weeks", "1-20", "law", "0-3", "heavy", "1-30", "odds", "0-10", ";"},
    {"house", "push", "0-40", "?leans", ";"},
    {"place", "0-7", "sun", "0-20", "smell", "0-20", ";"},
    {"snow", "at", "0-19", ";"},
    {"letter", "H", "to", "0-7", "at", "0-19", ";"}
  };
  private static final int[] MOST = {1, 8, 10, 4, 8};

  public int town() {
    StringBuilder text = new StringBuilder();
    for (int b : tape) text.append((char) b);
    int length = tape.size();
    tape.clear();
    List<String> tokens = new ArrayList<>();
    List<Integer> places = new ArrayList<>();
    Matcher m = Pattern.compile("[a-z]+|[0-9]+|[^ \n]", Pattern.DOTALL).matcher(text);
    while (m.find()) {
      tokens.add(m.group());
      places.add(m.start());
    }
    tokens.add("");
    places.add(length);
    Town t = new Town();
    int[] seen = new int[5];
    fault = 0;
    faultAt = -1;
    int i = 0;
    while (fault == 0 && !tokens.get(i).isEmpty()) {
      int kind = -1;
      for (int k = 0; k < 5; k++) if (LINES[k][0].equals(tokens.get(i))) kind = k;
      if (kind < 0 || (kind == 0) != (t.lines == 0)) fault = 1;
      else if (seen[kind] == MOST[kind]) fault = 3;
      else seen[kind]++;
      if (fault != 0) break;
      i++;
      List<Integer> numbers = new ArrayList<>();
      boolean leans = false;
      for (int k = 1; k < LINES[kind].length && fault == 0; k++) {
        String want = LINES[kind][k];
        String have = tokens.get(i);
        if (want.equals("?leans")) {
          if (!have.equals("leans")) continue;
          leans = true;
        } else if (want.equals("H") || want.contains("-")) {
          if (!have.matches("[0-9]+")) fault = 1;
          else {
            String[] bounds = want.equals("H") ? new String[] {"0", "" + (t.houses() - 1)} : want.split("-");
            BigInteger v = new BigInteger(have);
            if (v.compareTo(new BigInteger(bounds[0])) < 0 || v.compareTo(new BigInteger(bounds[1])) > 0) fault = 2;
            else numbers.add(v.intValue());
          }
        } else if (!have.equals(want)) fault = 1;
        if (fault == 0) i++;
      }
      if (fault != 0) break;
      t.lines++;
      if (kind == 0) {
        t.weeks = numbers.get(0);
        t.law = numbers.get(1);
        t.heavy = numbers.get(2);
        t.odds = numbers.get(3);
      } else if (kind == 1) {
        if (leans) t.leaning.add(t.houses());
        t.push.add(numbers.get(0));
      } else if (kind == 2) {
        t.places[numbers.get(0)] = new int[] {numbers.get(1), numbers.get(2)};
        t.placeLines++;
      } else if (kind == 3) t.snows.add(numbers.get(0));
      else t.letters.add(new int[] {numbers.get(0), numbers.get(1), numbers.get(2)});
    }
    if (fault != 0) {
      faultAt = places.get(i);
      return -4;
    }
    town = t.lines == 0 ? null : t;
    return t.lines;
  }

  public int fault(int what) {
    return what == 0 ? fault : what == 1 ? faultAt : -1;
  }

  // ---- what there is

  private boolean h(int house) {
    return town != null && house >= 0 && house < town.houses();
  }

  private boolean w(int week) {
    return town != null && week >= 0 && week <= town.weeks;
  }

  private boolean a(int week) {
    return w(week) && week < town.weeks;
  }

  private boolean l(int letter) {
    return town != null && letter >= 0 && letter < town.letters.size();
  }

  private int bits(int n, IntPredicate p) {
    int bits = 0;
    for (int i = 0; i < n; i++) if (p.test(i)) bits += 1 << i;
    return bits;
  }

  private int first(int from, int to, IntPredicate p) {
    for (int i = from; i <= to; i++) if (p.test(i)) return i;
    return -1;
  }

  private int much(int from, int to, IntPredicate p) {
    int n = 0;
    for (int i = from; i <= to; i++) if (p.test(i)) n++;
    return n;
  }

  public int house(int house, int what) {
    if (!h(house) || what < 0 || what > 1) return -2;
    return what == 0 ? town.push.get(house) : town.leaning.contains(house) ? 1 : 0;
  }

  public int place(int place, int what) {
    if (!h(place) || what < 0 || what > 1) return -2;
    return town.places[place][what];
  }

  public int letter(int letter, int what) {
    if (!l(letter) || what < 0 || what > 2) return -2;
    return town.letters.get(letter)[what];
  }

  public int snows() {
    if (town == null) return -2;
    return bits(town.weeks, w -> town.snows.contains(w));
  }

  public int at(int house, int week) {
    return h(house) && w(week) ? told().at[week][house] : -2;
  }

  public int who(int place, int week) {
    if (!h(place) || !w(week)) return -2;
    World y = told();
    return first(0, town.houses() - 1, h -> y.at[week][h] == place);
  }

  public int pushes(int house, int week) {
    return h(house) && a(week) ? told().push[week][house] : -2;
  }

  public int force(int week) {
    return a(week) ? told().force[week] : -10000;
  }

  public int turn(int week) {
    return a(week) ? told().turn[week] : -10000;
  }

  public int stands(int week) {
    if (!w(week)) return -2;
    if (town.houses() == 0) return 0;
    World y = told();
    int s = 0;
    for (int w = 0; w < week; w++) s += y.turn[w];
    return (s % town.houses() + town.houses()) % town.houses();
  }

  public int jerk() {
    if (town == null) return -2;
    World y = told();
    int most = 0;
    for (int t : y.turn) most = Math.max(most, Math.abs(t));
    int m = most;
    return first(0, town.weeks - 1, w -> Math.abs(y.turn[w]) == m);
  }

  public int still() {
    if (town == null) return -2;
    World y = told();
    return bits(town.weeks, w -> y.turn[w] == 0);
  }

  public int strongest(int week) {
    if (!a(week)) return -2;
    int[] p = told().push[week];
    int most = Arrays.stream(p).max().orElse(0);
    return most == 0 ? -1 : first(0, p.length - 1, h -> p[h] == most);
  }

  public int toil(int house) {
    if (!h(house)) return -2;
    int s = 0;
    for (int[] p : told().push) s += p[house];
    return s;
  }

  public int sun(int house, int week) {
    return h(house) && w(week) ? told().sun(house, week) : -2;
  }

  private int[] suns(World y) {
    int[] s = new int[town.houses()];
    for (int h = 0; h < s.length; h++) s[h] = y.sun(h, town.weeks);
    return s;
  }

  public int brown() {
    if (town == null) return -2;
    int[] s = suns(told());
    return first(0, s.length - 1, h -> s[h] == Arrays.stream(s).max().getAsInt());
  }

  public int pale() {
    if (town == null) return -2;
    int[] s = suns(told());
    return first(0, s.length - 1, h -> s[h] == Arrays.stream(s).min().getAsInt());
  }

  public int span() {
    return town == null ? -2 : told().span();
  }

  public int home() {
    if (town == null) return -2;
    World y = told();
    return first(1, town.weeks, w -> Arrays.equals(y.at[w], y.at[0]));
  }

  public int sees(int house) {
    if (!h(house)) return -2;
    World y = told();
    return bits(8, p -> first(0, town.weeks, w -> y.at[w][house] == p) >= 0);
  }

  public int when(int house, int place) {
    if (!h(house) || !h(place)) return -2;
    World y = told();
    return first(0, town.weeks, w -> y.at[w][house] == place);
  }

  public int apart(int house, int other, int week) {
    if (!h(house) || !h(other) || !w(week)) return -2;
    int[] p = told().at[week];
    return first(0, 7, d -> (p[house] + d) % town.houses() == p[other]);
  }

  public int often(int house, int place) {
    if (!h(house) || !h(place)) return -2;
    World y = told();
    return much(0, town.weeks, w -> y.at[w][house] == place);
  }

  public int nose(int house) {
    if (!h(house)) return -2;
    int s = 0;
    for (int[] p : told().at) s += town.places[p[house]][1];
    return s;
  }

  public int idle(int week) {
    if (!a(week)) return -2;
    int[] p = told().push[week];
    return bits(p.length, h -> p[h] == 0);
  }

  public int backs() {
    if (town == null) return -2;
    World y = told();
    return much(0, town.weeks - 1, w -> y.turn[w] < 0);
  }

  public int beside(int house, int other) {
    if (!h(house) || !h(other) || house == other) return -2;
    World y = told();
    int n = town.houses();
    return first(0, town.weeks, w -> (y.at[w][house] + 1) % n == y.at[w][other] || (y.at[w][other] + 1) % n == y.at[w][house]);
  }

  public int all(int week) {
    return a(week) ? Arrays.stream(told().push[week]).sum() : -2;
  }

  public int noon(int week) {
    if (!w(week)) return -2;
    int[] p = told().at[week];
    int best = -1;
    for (int h = p.length - 1; h >= 0; h--) if (best < 0 || town.places[p[h]][0] >= town.places[p[best]][0]) best = h;
    return best;
  }

  public int mates(int house, int week) {
    if (!h(house) || !w(week)) return -2;
    int[] p = told().at[week];
    int n = p.length;
    return bits(n, o -> (p[o] + 1) % n == p[house] || (p[house] + 1) % n == p[o]);
  }

  public int view(int house, int week) {
    if (!h(house) || !w(week)) return -2;
    int[] p = told().at[week];
    int n = p.length;
    return first(0, n - 1, o -> (p[house] + n / 2) % n == p[o]);
  }

  public int best(int house) {
    if (!h(house)) return -2;
    World y = told();
    int best = 0;
    for (int w = town.weeks; w >= 0; w--) {
      if (town.places[y.at[w][house]][0] >= town.places[y.at[best][house]][0] && (w < best || town.places[y.at[w][house]][0] > town.places[y.at[best][house]][0])) best = w;
    }
    int most = town.places[y.at[best][house]][0];
    return first(0, town.weeks, w -> town.places[y.at[w][house]][0] == most);
  }

  public int sweet(int house) {
    if (!h(house)) return -2;
    World y = told();
    return much(0, town.weeks, w -> town.places[y.at[w][house]][0] > town.places[y.at[w][house]][1]);
  }

  public int last(int house) {
    if (!h(house)) return -2;
    World y = told();
    for (int w = town.weeks; ; w--) if (y.at[w][house] == y.at[0][house]) return w;
  }

  public int same(int week) {
    if (!w(week)) return -2;
    World y = told();
    return bits(town.houses(), h -> y.at[week][h] == y.at[0][h]);
  }

  public int loose(int place) {
    if (!h(place)) return -2;
    World y = told();
    return bits(town.weeks, w -> first(0, town.houses() - 1, h -> y.at[w][h] == place && y.push[w][h] == 0) >= 0);
  }

  public int gold() {
    if (town == null) return -2;
    int[] s = suns(told());
    return bits(s.length, h -> s[h] == Arrays.stream(s).max().getAsInt());
  }

  public int late(int letter) {
    if (!l(letter)) return -2;
    int[] x = town.letters.get(letter);
    World y = told();
    return first(x[2], town.weeks, w -> y.at[w][x[0]] == x[1]);
  }

  public int right(int letter) {
    return l(letter) ? told().rights() >> letter & 1 : -2;
  }

  public int rights() {
    return town == null ? -2 : told().rights();
  }

  public int wrong(int letter) {
    if (!l(letter)) return -2;
    int[] x = town.letters.get(letter);
    if (x[2] > town.weeks || x[1] >= town.houses()) return -1;
    int[] p = told().at[x[2]];
    return first(0, p.length - 1, h -> h != x[0] && p[h] == x[1]);
  }

  // ---- staying in

  private TreeMap<Integer, List<Integer>> byTurn(int week) {
    TreeMap<Integer, List<Integer>> found = new TreeMap<>();
    int[] p = told().push[week];
    for (int set = 0; set < 1 << p.length; set++) {
      int f = 0;
      for (int h = 0; h < p.length; h++) {
        if ((set >> h & 1) == 0) f += town.leaning.contains(h) ? -p[h] : p[h];
      }
      found.computeIfAbsent(turned(town.law, town.heavy, f, week), k -> new ArrayList<>()).add(set);
    }
    return found;
  }

  public int stay(int week, int n) {
    int set = stays(week, n);
    return set < 0 ? set : Integer.bitCount(set);
  }

  public int stays(int week, int n) {
    if (!a(week) || n < -400 || n > 400) return -2;
    List<Integer> sets = byTurn(week).get(n);
    if (sets == null) return -1;
    sets.sort((s, t) -> Integer.bitCount(s) != Integer.bitCount(t) ? Integer.bitCount(s) - Integer.bitCount(t) : s - t);
    return sets.get(0);
  }

  public int moves(int week) {
    return a(week) ? byTurn(week).size() : -2;
  }

  public int fair() {
    if (town == null) return -2;
    int[] spans = new int[31];
    for (int v = 1; v <= 30; v++) {
      Ask ask = new Ask();
      ask.heavy = v;
      spans[v] = ask.go().span();
    }
    spans[0] = Integer.MAX_VALUE;
    return first(1, 30, v -> spans[v] == Arrays.stream(spans).min().getAsInt());
  }

  public int post() {
    if (town == null) return -2;
    int[] counts = new int[31];
    counts[0] = -1;
    for (int v = 1; v <= 30; v++) {
      Ask ask = new Ask();
      ask.heavy = v;
      counts[v] = Integer.bitCount(ask.go().rights());
    }
    return first(1, 30, v -> counts[v] == Arrays.stream(counts).max().getAsInt());
  }

  public int by(int law) {
    if (town == null || law < 0 || law > 3) return -2;
    Ask ask = new Ask();
    ask.law = law;
    return ask.go().span();
  }

  public int law() {
    if (town == null) return -2;
    int least = Math.min(Math.min(by(0), by(1)), Math.min(by(2), by(3)));
    return first(0, 3, law -> by(law) == least);
  }

  private List<Integer> allTrades() {
    List<Integer> found = new ArrayList<>();
    int[] before = suns(told());
    for (int i = 0; i < before.length; i++) {
      for (int j = i + 1; j < before.length; j++) {
        Ask ask = new Ask();
        ask.ahead = new int[] {i, j};
        int[] after = suns(ask.go());
        if (after[i] > before[i] && after[j] > before[j]) found.add(10 * i + j);
      }
    }
    return found;
  }

  public int trade() {
    if (town == null) return -2;
    return allTrades().isEmpty() ? -1 : allTrades().get(0);
  }

  public int trades() {
    return town == null ? -2 : allTrades().size();
  }

  // ---- seen

  private int refuse(int slot, int lastWeek, int least, int most) {
    if (slot < 0 || slot > 3 || town == null) return -2;
    if (rows.get(slot) == null) return -6;
    List<Long> row = rows.get(slot);
    if (row.size() % 2 == 1) return -2;
    for (int i = 0; i < row.size(); i += 2) {
      if (row.get(i) < 0 || row.get(i) > lastWeek || row.get(i + 1) < least || row.get(i + 1) > most) return -2;
    }
    return 0;
  }

  private int refuseSeen(int slot) {
    return refuse(slot, town == null ? 0 : town.weeks - 1, -400, 400);
  }

  private Map<Integer, World> fitting(int slot) {
    Map<Integer, World> found = new TreeMap<>();
    List<Long> row = rows.get(slot);
    for (int set = 0; set < 1 << town.houses(); set++) {
      int s = set;
      Ask ask = new Ask();
      ask.leaning = h -> (s >> h & 1) == 1;
      World y = ask.go();
      boolean fits = true;
      for (int i = 0; i < row.size(); i += 2) fits &= y.turn[(int) (long) row.get(i)] == row.get(i + 1);
      if (fits) found.put(set, y);
    }
    return found;
  }

  public int leans(int slot) {
    int r = refuseSeen(slot);
    return r != 0 ? r : fitting(slot).size();
  }

  public int surely(int slot) {
    int r = refuseSeen(slot);
    if (r != 0) return r;
    Map<Integer, World> f = fitting(slot);
    return f.isEmpty() ? -1 : bits(town.houses(), h -> f.keySet().stream().allMatch(s -> (s >> h & 1) == 1));
  }

  public int never(int slot) {
    int r = refuseSeen(slot);
    if (r != 0) return r;
    Map<Integer, World> f = fitting(slot);
    return f.isEmpty() ? -1 : bits(town.houses(), h -> f.keySet().stream().noneMatch(s -> (s >> h & 1) == 1));
  }

  private int[] worsts(int slot) {
    Map<Integer, World> f = fitting(slot);
    int[] worst = new int[town.weeks];
    for (int w = 0; w < town.weeks; w++) {
      Map<Integer, Integer> counts = new HashMap<>();
      for (World y : f.values()) counts.merge(y.turn[w], 1, Integer::sum);
      worst[w] = counts.values().stream().mapToInt(x -> x).max().orElse(0);
    }
    return worst;
  }

  public int ask(int slot) {
    int r = refuseSeen(slot);
    if (r != 0) return r;
    int[] worst = worsts(slot);
    int least = Arrays.stream(worst).min().getAsInt();
    return least < leans(slot) ? first(0, town.weeks - 1, w -> worst[w] == least) : -1;
  }

  public int leaves(int slot) {
    int r = refuseSeen(slot);
    if (r != 0) return r;
    return Math.min(leans(slot), Arrays.stream(worsts(slot)).min().getAsInt());
  }

  private int refuseGate(int slot) {
    return refuse(slot, town == null ? 0 : town.weeks, 0, town == null ? 0 : town.houses() - 1);
  }

  private int through(int slot, World y) {
    List<Long> row = rows.get(slot);
    return bits(town.houses(), h -> {
      for (int i = 0; i < row.size(); i += 2) if (y.at[(int) (long) row.get(i)][h] != row.get(i + 1)) return false;
      return true;
    });
  }

  public int gate(int slot) {
    int r = refuseGate(slot);
    return r != 0 ? r : through(slot, told());
  }

  public int laws(int slot) {
    int r = refuseGate(slot);
    if (r != 0) return r;
    return bits(4, law -> {
      Ask ask = new Ask();
      ask.law = law;
      return through(slot, ask.go()) > 0;
    });
  }

  // ---- shares

  private int valued(int set) {
    Ask ask = new Ask();
    ask.stays = h -> (set >> h & 1) == 0;
    return Arrays.stream(ask.go().turn).map(Math::abs).sum();
  }

  public int worth(int set) {
    if (town == null || set < 0 || set >= 1 << town.houses()) return -2;
    return valued(set);
  }

  public int share(int house, int what) {
    if (!h(house) || what < 0 || what > 1) return -2;
    Map<Integer, Integer> known = new HashMap<>();
    long[] sum = new long[2];
    orders(0, house, known, sum);
    return (int) part(sum[0], sum[1], what);
  }

  /** Goes through every order in full: what the house adds when it comes, and how many orders. */
  private void orders(int set, int house, Map<Integer, Integer> known, long[] sum) {
    if (set == (1 << town.houses()) - 1) {
      sum[1]++;
      return;
    }
    for (int h = 0; h < town.houses(); h++) {
      if ((set >> h & 1) == 1) continue;
      long before = sum[1];
      orders(set | 1 << h, house, known, sum);
      if (h == house) sum[0] += (sum[1] - before) * (known.computeIfAbsent(set | 1 << h, this::valued) - known.computeIfAbsent(set, this::valued));
    }
  }

  private static long part(long above, long below, int what) {
    long g = BigInteger.valueOf(above).gcd(BigInteger.valueOf(below)).longValue();
    return (what == 0 ? above : below) / g;
  }

  // ---- game

  private int payoff(int house, int other, int x, int y) {
    Ask ask = new Ask();
    ask.stays = h -> h == house && x == 1 || h == other && y == 1;
    World world = ask.go();
    return world.sun(house, town.weeks) - 2 * much(0, town.weeks - 1, w -> world.push[w][house] > 0);
  }

  public int rests(int house, int other) {
    if (!h(house) || !h(other) || house == other) return -2;
    int bits = 0;
    for (int x = 0; x < 2; x++) {
      for (int y = 0; y < 2; y++) {
        boolean better = payoff(house, other, 1 - x, y) > payoff(house, other, x, y) || payoff(other, house, 1 - y, x) > payoff(other, house, y, x);
        if (!better) bits += x == 0 ? y == 0 ? 1 : 4 : y == 0 ? 2 : 8;
      }
    }
    return bits;
  }

  public int gets(int house, int other, int x, int y) {
    if (!h(house) || !h(other) || house == other || x < 0 || x > 1 || y < 0 || y > 1) return -1000;
    return payoff(house, other, x, y);
  }

  // ---- chance

  private interface Value {
    long of(World y);
  }

  private long weigh(int week, int w, List<Integer> snowy, long weight, Value value) {
    if (w > week) {
      if (weight == 0) return 0;
      Ask ask = new Ask();
      ask.snowy = v -> v <= week ? snowy.contains(v) : town.snows.contains(v);
      return weight * value.of(ask.go());
    }
    long sum = weigh(week, w + 1, snowy, weight * (10 - town.odds), value);
    List<Integer> more = new ArrayList<>(snowy);
    more.add(w);
    return sum + weigh(week, w + 1, more, weight * town.odds, value);
  }

  private long tens(int n) {
    return BigInteger.TEN.pow(n).longValue();
  }

  public long chance(int house, int place, int week, int what) {
    if (!h(house) || !h(place) || !a(week) || week > 7 || what < 0 || what > 1) return -2;
    return part(weigh(week, 0, new ArrayList<>(), 1, y -> y.at[week + 1][house] == place ? 1 : 0), tens(week + 1), what);
  }

  public long mean(int house, int week, int what) {
    if (!h(house) || !a(week) || week > 7 || what < 0 || what > 1) return -2;
    return part(weigh(week, 0, new ArrayList<>(), 1, y -> y.sun(house, week + 1)), tens(week + 1), what);
  }

  // ---- acts

  public int rest(int house, int week) {
    if (!h(house) || !a(week)) return -2;
    if (town.acts.size() == 30) return -5;
    town.acts.add(new int[] {week, house, -1});
    return told().at[town.weeks][house];
  }

  public int swap(int house, int other, int week) {
    if (!h(house) || !h(other) || house == other || !a(week)) return -2;
    if (town.acts.size() == 30) return -5;
    town.acts.add(new int[] {week, house, other});
    return told().at[town.weeks][house];
  }

  public int undo() {
    if (town == null) return -2;
    if (town.acts.isEmpty()) return -5;
    town.acts.remove(town.acts.size() - 1);
    return town.acts.size();
  }

  public int anew() {
    if (town == null) return -2;
    int n = town.acts.size();
    town.acts.clear();
    return n;
  }

  // ---- drawn

  private int snowsOf(long seed) {
    BigInteger x = BigInteger.valueOf(seed);
    int bits = 0;
    for (int w = 0; w < town.weeks; w++) {
      x = x.multiply(BigInteger.valueOf(1103515245)).add(BigInteger.valueOf(12345)).mod(BigInteger.TWO.pow(31));
      if (x.divide(BigInteger.valueOf(65536)).mod(BigInteger.TEN).intValue() < town.odds) bits += 1 << w;
    }
    return bits;
  }

  private World year(long seed) {
    Ask ask = new Ask();
    int bits = snowsOf(seed);
    ask.snowy = w -> (bits >> w & 1) == 1;
    return ask.go();
  }

  public int drawn(int seed, int what) {
    if (town == null || seed < 0 || seed > 2000000000 || what < 0 || what > 2) return -2;
    return what == 0 ? snowsOf(seed) : what == 1 ? year(seed).span() : year(seed).rights();
  }

  public int luck(int seed, int n, int letter) {
    if (!l(letter) || seed < 0 || seed > 2000000000 || n < 1 || n > 20) return -2;
    return much(0, n - 1, i -> (year((long) seed + i).rights() >> letter & 1) == 1);
  }

  public int rate(int house, int n) {
    if (!h(house) || n < 0 || n > 40) return -2;
    if (!town.acts.isEmpty()) return -5;
    return town.push.set(house, n);
  }

  public int count(int what) {
    Town t = town == null ? new Town() : town;
    int[] counts = {
      t.weeks, t.law, t.heavy, t.odds, t.houses(), t.placeLines, t.snows.size(), t.letters.size(), t.acts.size(), t.lines,
      tape.size(), much(0, 3, s -> rows.get(s) != null)
    };
    return what < 0 || what >= counts.length ? -1 : counts[what];
  }

  public int image(int k) {
    if (k < 0 || k > 2) return -2;
    images[k] = town == null ? null : town.copy();
    kept[k] = true;
    return 0;
  }

  public int back(int k) {
    if (k < 0 || k > 2) return -2;
    if (!kept[k]) return -6;
    town = images[k] == null ? null : images[k].copy();
    return 0;
  }

  // ---- rows

  public int row(int slot, int width, int n) {
    if (slot < 0 || slot > 3 || width < 0 || width > 3 || n > 60) return -2;
    if (n < 0) return -3;
    List<Long> row = new ArrayList<>();
    for (int i = 0; i < n; i++) row.add(0L);
    rows.set(slot, row);
    widths[slot] = width;
    return 0;
  }

  public int write(int slot, int i, long v) {
    if (slot < 0 || slot > 3) return -2;
    if (rows.get(slot) == null) return -6;
    if (i < 0 || i >= rows.get(slot).size()) return -7;
    int drop = 64 - 8 * (1 << widths[slot]);
    rows.get(slot).set(i, v << drop >> drop);
    return 0;
  }

  public int paste(int slot, int i, int to, int k, int n) {
    if (slot < 0 || slot > 3 || to < 0 || to > 3) return -2;
    if (rows.get(slot) == null || rows.get(to) == null) return -6;
    if (widths[slot] != widths[to]) return -8;
    if (i < 0 || k < 0 || n < 0 || (long) i + n > rows.get(slot).size() || (long) k + n > rows.get(to).size()) return -7;
    List<Long> part = new ArrayList<>(rows.get(slot).subList(i, i + n));
    for (int j = 0; j < n; j++) rows.get(to).set(k + j, part.get(j));
    return 0;
  }
}
