import java.util.Arrays;

/** A town on a round street that turns every week; ../shared/DOC.md says what each call answers. */
public final class PivotStreet {
    public static final int NONE = -1;

    private static final int NO_SUCH = -2;
    private static final int SIZE_BELOW_ZERO = -3;
    private static final int FAULTY = -4;
    private static final int NOT_NOW = -5;
    private static final int HAS_NOTHING = -6;
    private static final int BEYOND = -7;
    private static final int OTHER_WIDTH = -8;
    private static final int NO_GAME = -1000;
    private static final int NO_TURN = -10000;

    private static final int MOST_BYTES = 800;
    private static final int FEED_BYTES = 20;
    private static final int MOST_HOUSES = 8;
    private static final int MOST_PLACE_LINES = 10;
    private static final int MOST_SNOWS = 4;
    private static final int MOST_LETTERS = 8;
    private static final int MOST_WEEKS = 20;
    private static final int MOST_ACTS = 30;
    private static final int MOST_SETS = 256;
    private static final int LAWS = 4;
    private static final int MOST_PUSH = 40;
    private static final int MOST_HEAVY = 30;
    private static final int MOST_ODDS = 10;
    private static final int MOST_TURN = 400;
    private static final int LAST_CHANCE_WEEK = 7;
    private static final int SLOTS = 4;
    private static final int WIDTHS = 4;
    private static final int MOST_NUMBERS = 60;
    private static final int IMAGES = 3;
    private static final int LAST_SEED = 2000000000;
    private static final int MOST_YEARS = 20;
    private static final int[] FACTORIALS = {1, 1, 2, 6, 24, 120, 720, 5040, 40320};

    private final Tape tape = new Tape();
    private Town now = new Town();
    private final Town[] images = new Town[IMAGES];
    private final boolean[] imageKept = new boolean[IMAGES];
    private final Row[] slots = new Row[SLOTS];
    private final Plan plan = new Plan();
    private final Year told = new Year();
    private final Year trial = new Year();
    private final Seen seen = new Seen();
    private final Tally tally = new Tally();
    private final int[] worths = new int[MOST_SETS];
    private boolean worthsKnown = false;

    public PivotStreet() {
        for (int k = 0; k < IMAGES; k++) {
            images[k] = new Town();
        }
        for (int slot = 0; slot < SLOTS; slot++) {
            slots[slot] = new Row();
        }
    }

    // ---- the tape and the town that is read from it

    public int feed(int a, int b, int c, int d, int e) {
        if (tape.size > MOST_BYTES - FEED_BYTES) {
            return NONE;
        }
        tape.add(a);
        tape.add(b);
        tape.add(c);
        tape.add(d);
        tape.add(e);
        return tape.size;
    }

    public int end(int n) {
        if (n < 0 || n > tape.size) {
            return NONE;
        }
        tape.size = n;
        return n;
    }

    public int town() {
        tape.read();
        // The tape is taken by a faulty reading, too: what stays is the town and what was done in it.
        tape.size = 0;
        if (tape.fault != 0) {
            return FAULTY;
        }
        Town before = now;
        now = tape.draft;
        tape.draft = before;
        renew();
        return now.lines;
    }

    public int fault(int what) {
        if (what == 0) {
            return tape.fault;
        }
        return what == 1 ? tape.faultPlace : NONE;
    }

    // ---- what was told

    public int house(int house, int what) {
        if (!isHouse(house)) {
            return NO_SUCH;
        }
        if (what == 0) {
            return now.push[house];
        }
        return what == 1 ? bitOf(now.leanBits, house) : NO_SUCH;
    }

    public int place(int place, int what) {
        if (!isPlace(place)) {
            return NO_SUCH;
        }
        if (what == 0) {
            return now.sunOn[place];
        }
        return what == 1 ? now.smellOf[place] : NO_SUCH;
    }

    public int letter(int letter, int what) {
        if (!isLetter(letter)) {
            return NO_SUCH;
        }
        switch (what) {
            case 0:
                return now.letterHouse[letter];
            case 1:
                return now.letterPlace[letter];
            case 2:
                return now.letterWeek[letter];
            default:
                return NO_SUCH;
        }
    }

    public int snows() {
        return hasTown() ? now.snowBits & lowBits(now.weeks) : NO_SUCH;
    }

    // ---- who is where, and how hard it pushes

    public int at(int house, int week) {
        return isHouse(house) && isWeek(week) ? told.spot(house, week) : NO_SUCH;
    }

    public int who(int place, int week) {
        return isPlace(place) && isWeek(week) ? told.houseOn(place, week, now.houses) : NO_SUCH;
    }

    public int pushes(int house, int week) {
        return isHouse(house) && isTurningWeek(week) ? told.effort(house, week) : NO_SUCH;
    }

    public int force(int week) {
        return isTurningWeek(week) ? told.forces[week] : NO_TURN;
    }

    public int turn(int week) {
        return isTurningWeek(week) ? told.turns[week] : NO_TURN;
    }

    public int stands(int week) {
        if (!isWeek(week)) {
            return NO_SUCH;
        }
        int sum = 0;
        for (int w = 0; w < week; w++) {
            sum += told.turns[w];
        }
        return round(sum, now.houses);
    }

    public int jerk() {
        if (!hasTown()) {
            return NO_SUCH;
        }
        int best = 0;
        for (int week = 1; week < now.weeks; week++) {
            if (Math.abs(told.turns[week]) > Math.abs(told.turns[best])) {
                best = week;
            }
        }
        return best;
    }

    public int still() {
        if (!hasTown()) {
            return NO_SUCH;
        }
        int bits = 0;
        for (int week = 0; week < now.weeks; week++) {
            if (told.turns[week] == 0) {
                bits |= 1 << week;
            }
        }
        return bits;
    }

    public int strongest(int week) {
        if (!isTurningWeek(week)) {
            return NO_SUCH;
        }
        int best = NONE;
        int most = 0;
        for (int house = 0; house < now.houses; house++) {
            if (told.effort(house, week) > most) {
                most = told.effort(house, week);
                best = house;
            }
        }
        return best;
    }

    public int toil(int house) {
        if (!isHouse(house)) {
            return NO_SUCH;
        }
        int sum = 0;
        for (int week = 0; week < now.weeks; week++) {
            sum += told.effort(house, week);
        }
        return sum;
    }

    // ---- sun

    public int sun(int house, int week) {
        return isHouse(house) && isWeek(week) ? told.sunTo(now, house, week) : NO_SUCH;
    }

    public int brown() {
        if (!hasTown()) {
            return NO_SUCH;
        }
        int best = NONE;
        int most = NONE;
        for (int house = 0; house < now.houses; house++) {
            int sum = told.sunTo(now, house, now.weeks);
            if (best == NONE || sum > most) {
                most = sum;
                best = house;
            }
        }
        return best;
    }

    public int pale() {
        if (!hasTown()) {
            return NO_SUCH;
        }
        int best = NONE;
        int least = 0;
        for (int house = 0; house < now.houses; house++) {
            int sum = told.sunTo(now, house, now.weeks);
            if (best == NONE || sum < least) {
                least = sum;
                best = house;
            }
        }
        return best;
    }

    public int span() {
        return hasTown() ? told.spread(now) : NO_SUCH;
    }

    // ---- places seen over the year

    public int home() {
        if (!hasTown()) {
            return NO_SUCH;
        }
        for (int week = 1; week <= now.weeks; week++) {
            if (backHomeBits(week) == lowBits(now.houses)) {
                return week;
            }
        }
        return NONE;
    }

    public int sees(int house) {
        if (!isHouse(house)) {
            return NO_SUCH;
        }
        int bits = 0;
        for (int week = 0; week <= now.weeks; week++) {
            bits |= 1 << told.spot(house, week);
        }
        return bits;
    }

    public int when(int house, int place) {
        return isHouse(house) && isPlace(place) ? firstWeekOn(house, place, 0) : NO_SUCH;
    }

    public int apart(int house, int other, int week) {
        return isHouse(house) && isHouse(other) && isWeek(week) ? distance(house, other, week) : NO_SUCH;
    }

    public int often(int house, int place) {
        if (!isHouse(house) || !isPlace(place)) {
            return NO_SUCH;
        }
        int count = 0;
        for (int week = 0; week <= now.weeks; week++) {
            if (told.spot(house, week) == place) {
                count++;
            }
        }
        return count;
    }

    public int nose(int house) {
        if (!isHouse(house)) {
            return NO_SUCH;
        }
        int sum = 0;
        for (int week = 0; week <= now.weeks; week++) {
            sum += now.smellOf[told.spot(house, week)];
        }
        return sum;
    }

    public int idle(int week) {
        if (!isTurningWeek(week)) {
            return NO_SUCH;
        }
        int bits = 0;
        for (int house = 0; house < now.houses; house++) {
            if (told.effort(house, week) == 0) {
                bits |= 1 << house;
            }
        }
        return bits;
    }

    public int backs() {
        if (!hasTown()) {
            return NO_SUCH;
        }
        int count = 0;
        for (int week = 0; week < now.weeks; week++) {
            if (told.turns[week] < 0) {
                count++;
            }
        }
        return count;
    }

    public int beside(int house, int other) {
        if (!isPair(house, other)) {
            return NO_SUCH;
        }
        for (int week = 0; week <= now.weeks; week++) {
            int steps = distance(house, other, week);
            if (steps == 1 || steps == now.houses - 1) {
                return week;
            }
        }
        return NONE;
    }

    public int all(int week) {
        if (!isTurningWeek(week)) {
            return NO_SUCH;
        }
        int sum = 0;
        for (int house = 0; house < now.houses; house++) {
            sum += told.effort(house, week);
        }
        return sum;
    }

    public int noon(int week) {
        if (!isWeek(week)) {
            return NO_SUCH;
        }
        int best = NONE;
        int most = NONE;
        for (int house = 0; house < now.houses; house++) {
            int here = now.sunOn[told.spot(house, week)];
            if (here > most) {
                most = here;
                best = house;
            }
        }
        return best;
    }

    public int mates(int house, int week) {
        if (!isHouse(house) || !isWeek(week)) {
            return NO_SUCH;
        }
        return 1 << neighbour(house, 1, week) | 1 << neighbour(house, -1, week);
    }

    public int view(int house, int week) {
        return isHouse(house) && isWeek(week) ? neighbour(house, now.houses / 2, week) : NO_SUCH;
    }

    public int best(int house) {
        if (!isHouse(house)) {
            return NO_SUCH;
        }
        int best = 0;
        for (int week = 1; week <= now.weeks; week++) {
            if (now.sunOn[told.spot(house, week)] > now.sunOn[told.spot(house, best)]) {
                best = week;
            }
        }
        return best;
    }

    public int sweet(int house) {
        if (!isHouse(house)) {
            return NO_SUCH;
        }
        int count = 0;
        for (int week = 0; week <= now.weeks; week++) {
            int place = told.spot(house, week);
            if (now.sunOn[place] > now.smellOf[place]) {
                count++;
            }
        }
        return count;
    }

    public int last(int house) {
        if (!isHouse(house)) {
            return NO_SUCH;
        }
        int last = 0;
        for (int week = 1; week <= now.weeks; week++) {
            if (told.spot(house, week) == told.spot(house, 0)) {
                last = week;
            }
        }
        return last;
    }

    public int same(int week) {
        return isWeek(week) ? backHomeBits(week) : NO_SUCH;
    }

    public int loose(int place) {
        if (!isPlace(place)) {
            return NO_SUCH;
        }
        int bits = 0;
        for (int week = 0; week < now.weeks; week++) {
            int house = told.houseOn(place, week, now.houses);
            if (house != NONE && told.effort(house, week) == 0) {
                bits |= 1 << week;
            }
        }
        return bits;
    }

    public int gold() {
        int sunniest = brown();
        if (sunniest == NO_SUCH) {
            return NO_SUCH;
        }
        int bits = 0;
        for (int house = 0; house < now.houses; house++) {
            if (told.sunTo(now, house, now.weeks) == told.sunTo(now, sunniest, now.weeks)) {
                bits |= 1 << house;
            }
        }
        return bits;
    }

    // ---- letters

    public int late(int letter) {
        if (!isLetter(letter)) {
            return NO_SUCH;
        }
        return firstWeekOn(now.letterHouse[letter], now.letterPlace[letter], now.letterWeek[letter]);
    }

    public int right(int letter) {
        if (!isLetter(letter)) {
            return NO_SUCH;
        }
        return told.reaches(now, letter) ? 1 : 0;
    }

    public int rights() {
        return hasTown() ? told.reachedBits(now) : NO_SUCH;
    }

    public int wrong(int letter) {
        if (!isLetter(letter)) {
            return NO_SUCH;
        }
        int place = now.letterPlace[letter];
        int week = now.letterWeek[letter];
        if (!isPlace(place) || !isWeek(week)) {
            return NONE;
        }
        int house = told.houseOn(place, week, now.houses);
        return house == now.letterHouse[letter] ? NONE : house;
    }

    // ---- who stays in so that it turns as told

    public int stay(int week, int n) {
        if (!isTurningWeek(week) || !isTurn(n)) {
            return NO_SUCH;
        }
        int set = fewestStaying(week, n);
        return set == NONE ? NONE : Integer.bitCount(set);
    }

    public int stays(int week, int n) {
        return isTurningWeek(week) && isTurn(n) ? fewestStaying(week, n) : NO_SUCH;
    }

    public int moves(int week) {
        if (!isTurningWeek(week)) {
            return NO_SUCH;
        }
        tally.clear();
        int count = 0;
        for (int set = 0; set <= lowBits(now.houses); set++) {
            if (tally.add(turnWithout(week, set)) == 1) {
                count++;
            }
        }
        return count;
    }

    private int fewestStaying(int week, int n) {
        int best = NONE;
        for (int set = 0; set <= lowBits(now.houses); set++) {
            boolean fewer = best == NONE || Integer.bitCount(set) < Integer.bitCount(best);
            if (fewer && turnWithout(week, set) == n) {
                best = set;
            }
        }
        return best;
    }

    private int turnWithout(int week, int set) {
        int force = 0;
        for (int house = 0; house < now.houses; house++) {
            if (bitOf(set, house) == 0) {
                force += signed(told.effort(house, week), now.leanBits, house);
            }
        }
        return turnBy(now.law, now.heavy, force, week, now.houses);
    }

    // ---- how heavy, by which law, by which exchange

    public int fair() {
        if (!hasTown()) {
            return NO_SUCH;
        }
        int best = NONE;
        int least = 0;
        for (int heavy = 1; heavy <= MOST_HEAVY; heavy++) {
            followHeavy(heavy);
            int spread = trial.spread(now);
            if (best == NONE || spread < least) {
                least = spread;
                best = heavy;
            }
        }
        return best;
    }

    public int post() {
        if (!hasTown()) {
            return NO_SUCH;
        }
        int best = NONE;
        int most = 0;
        for (int heavy = 1; heavy <= MOST_HEAVY; heavy++) {
            followHeavy(heavy);
            int reached = Integer.bitCount(trial.reachedBits(now));
            if (best == NONE || reached > most) {
                most = reached;
                best = heavy;
            }
        }
        return best;
    }

    public int by(int law) {
        return hasTown() && law >= 0 && law < LAWS ? spreadBy(law) : NO_SUCH;
    }

    public int law() {
        if (!hasTown()) {
            return NO_SUCH;
        }
        int best = NONE;
        int least = 0;
        for (int law = 0; law < LAWS; law++) {
            int spread = spreadBy(law);
            if (best == NONE || spread < least) {
                least = spread;
                best = law;
            }
        }
        return best;
    }

    public int trade() {
        if (!hasTown()) {
            return NO_SUCH;
        }
        for (int first = 0; first < now.houses; first++) {
            for (int second = first + 1; second < now.houses; second++) {
                if (bothGain(first, second)) {
                    return 10 * first + second;
                }
            }
        }
        return NONE;
    }

    public int trades() {
        if (!hasTown()) {
            return NO_SUCH;
        }
        int count = 0;
        for (int first = 0; first < now.houses; first++) {
            for (int second = first + 1; second < now.houses; second++) {
                if (bothGain(first, second)) {
                    count++;
                }
            }
        }
        return count;
    }

    private void followHeavy(int heavy) {
        plan.asTold(now);
        plan.heavy = heavy;
        trial.follow(now, plan);
    }

    private void followLaw(int law) {
        plan.asTold(now);
        plan.law = law;
        trial.follow(now, plan);
    }

    private int spreadBy(int law) {
        followLaw(law);
        return trial.spread(now);
    }

    private boolean bothGain(int first, int second) {
        plan.asTold(now);
        plan.first = first;
        plan.second = second;
        trial.follow(now, plan);
        return gainsSun(first) && gainsSun(second);
    }

    private boolean gainsSun(int house) {
        return trial.sunTo(now, house, now.weeks) > told.sunTo(now, house, now.weeks);
    }

    // ---- who leans, by the turns that were seen

    public int leans(int slot) {
        int refusal = refuseTurns(slot);
        if (refusal != 0) {
            return refusal;
        }
        seek(slots[slot]);
        return seen.sets;
    }

    public int surely(int slot) {
        int refusal = refuseTurns(slot);
        if (refusal != 0) {
            return refusal;
        }
        seek(slots[slot]);
        return seen.sets == 0 ? NONE : seen.inAll;
    }

    public int never(int slot) {
        int refusal = refuseTurns(slot);
        if (refusal != 0) {
            return refusal;
        }
        seek(slots[slot]);
        return seen.sets == 0 ? NONE : lowBits(now.houses) & ~seen.inAny;
    }

    public int ask(int slot) {
        int refusal = refuseTurns(slot);
        if (refusal != 0) {
            return refusal;
        }
        seek(slots[slot]);
        return weekToAsk();
    }

    public int leaves(int slot) {
        int refusal = refuseTurns(slot);
        if (refusal != 0) {
            return refusal;
        }
        seek(slots[slot]);
        int week = weekToAsk();
        return week == NONE ? seen.sets : seen.worst(week, tally);
    }

    private int refuseTurns(int slot) {
        return refusePairs(slot, now.weeks - 1, -MOST_TURN, MOST_TURN);
    }

    private int refusePairs(int slot, int lastWeek, int least, int most) {
        if (!isSlot(slot) || !hasTown()) {
            return NO_SUCH;
        }
        if (!slots[slot].isThere()) {
            return HAS_NOTHING;
        }
        return slots[slot].hasPairs(lastWeek, least, most) ? 0 : NO_SUCH;
    }

    private void seek(Row row) {
        seen.begin(lowBits(now.houses));
        for (int set = 0; set <= lowBits(now.houses); set++) {
            plan.asTold(now);
            plan.leanBits = set;
            trial.follow(now, plan);
            if (row.fitsTurns(trial)) {
                seen.add(set, trial, now.weeks);
            }
        }
    }

    private int weekToAsk() {
        int best = NONE;
        int fewest = seen.sets;
        for (int week = 0; week < now.weeks; week++) {
            int worst = seen.worst(week, tally);
            if (worst < fewest) {
                fewest = worst;
                best = week;
            }
        }
        return best;
    }

    // ---- who was at a gate

    public int gate(int slot) {
        int refusal = refusePairs(slot, now.weeks, 0, now.houses - 1);
        return refusal != 0 ? refusal : gateBits(slots[slot], told);
    }

    public int laws(int slot) {
        int refusal = refusePairs(slot, now.weeks, 0, now.houses - 1);
        if (refusal != 0) {
            return refusal;
        }
        int bits = 0;
        for (int law = 0; law < LAWS; law++) {
            followLaw(law);
            if (gateBits(slots[slot], trial) != 0) {
                bits |= 1 << law;
            }
        }
        return bits;
    }

    private int gateBits(Row row, Year year) {
        int bits = 0;
        for (int house = 0; house < now.houses; house++) {
            if (row.fitsPlaces(year, house)) {
                bits |= 1 << house;
            }
        }
        return bits;
    }

    // ---- shares of turning

    public int worth(int set) {
        return hasTown() && set >= 0 && set <= lowBits(now.houses) ? turnedBy(set) : NO_SUCH;
    }

    public int share(int house, int what) {
        if (!isHouse(house) || !isPart(what)) {
            return NO_SUCH;
        }
        learnWorths();
        long above = 0;
        for (int set = 0; set <= lowBits(now.houses); set++) {
            if (bitOf(set, house) == 0) {
                int ahead = Integer.bitCount(set);
                long orders = (long) FACTORIALS[ahead] * FACTORIALS[now.houses - 1 - ahead];
                above += orders * (worths[set | 1 << house] - worths[set]);
            }
        }
        return (int) fractionPart(above, FACTORIALS[now.houses], what);
    }

    private int turnedBy(int set) {
        plan.asTold(now);
        plan.stayBits = lowBits(now.houses) & ~set;
        trial.follow(now, plan);
        int sum = 0;
        for (int week = 0; week < now.weeks; week++) {
            sum += Math.abs(trial.turns[week]);
        }
        return sum;
    }

    private void learnWorths() {
        if (worthsKnown) {
            return;
        }
        for (int set = 0; set <= lowBits(now.houses); set++) {
            worths[set] = turnedBy(set);
        }
        worthsKnown = true;
    }

    // ---- two who stay in, or not

    public int rests(int house, int other) {
        if (!isPair(house, other)) {
            return NO_SUCH;
        }
        int bits = 0;
        for (int choices = 0; choices < 4; choices++) {
            int x = choices & 1;
            int y = choices >> 1;
            boolean firstRests = gain(house, other, x, y) >= gain(house, other, 1 - x, y);
            if (firstRests && gain(other, house, y, x) >= gain(other, house, 1 - y, x)) {
                bits |= 1 << choices;
            }
        }
        return bits;
    }

    public int gets(int house, int other, int x, int y) {
        return isPair(house, other) && isPart(x) && isPart(y) ? gain(house, other, x, y) : NO_GAME;
    }

    private int gain(int house, int rival, int x, int y) {
        plan.asTold(now);
        plan.stayBits = x << house | y << rival;
        trial.follow(now, plan);
        int sum = trial.sunTo(now, house, now.weeks);
        for (int week = 0; week < now.weeks; week++) {
            if (trial.effort(house, week) > 0) {
                sum -= 2;
            }
        }
        return sum;
    }

    // ---- snows by chance

    public long chance(int house, int place, int week, int what) {
        if (!isHouse(house) || !isPlace(place) || !isChanceWeek(week) || !isPart(what)) {
            return NO_SUCH;
        }
        long above = 0;
        for (int snows = 0; snows <= lowBits(week + 1); snows++) {
            long weight = weightOf(snows, week + 1);
            followSnows(snows, week + 1);
            if (trial.spot(house, week + 1) == place) {
                above += weight;
            }
        }
        return fractionPart(above, power(MOST_ODDS, week + 1), what);
    }

    public long mean(int house, int week, int what) {
        if (!isHouse(house) || !isChanceWeek(week) || !isPart(what)) {
            return NO_SUCH;
        }
        long above = 0;
        for (int snows = 0; snows <= lowBits(week + 1); snows++) {
            long weight = weightOf(snows, week + 1);
            followSnows(snows, week + 1);
            above += weight * trial.sunTo(now, house, week + 1);
        }
        return fractionPart(above, power(MOST_ODDS, week + 1), what);
    }

    private void followSnows(int snows, int until) {
        plan.asTold(now);
        plan.snowBits = snows;
        plan.until = until;
        trial.follow(now, plan);
    }

    private long weightOf(int snows, int weeks) {
        int snowy = Integer.bitCount(snows);
        return power(now.odds, snowy) * power(MOST_ODDS - now.odds, weeks - snowy);
    }

    // ---- acts

    public int rest(int house, int week) {
        if (!isHouse(house) || !isTurningWeek(week)) {
            return NO_SUCH;
        }
        return act(house, NONE, week);
    }

    public int swap(int house, int other, int week) {
        if (!isPair(house, other) || !isTurningWeek(week)) {
            return NO_SUCH;
        }
        return act(house, other, week);
    }

    private int act(int house, int partner, int week) {
        if (now.acts.size >= MOST_ACTS) {
            return NOT_NOW;
        }
        now.acts.add(house, partner, week);
        renew();
        return told.spot(house, now.weeks);
    }

    public int undo() {
        if (!hasTown()) {
            return NO_SUCH;
        }
        if (now.acts.size == 0) {
            return NOT_NOW;
        }
        now.acts.keepFirst(now.acts.size - 1);
        renew();
        return now.acts.size;
    }

    public int anew() {
        if (!hasTown()) {
            return NO_SUCH;
        }
        int size = now.acts.size;
        now.acts.keepFirst(0);
        renew();
        return size;
    }

    // ---- years drawn

    public int drawn(int seed, int what) {
        if (!hasTown() || !isSeed(seed) || what < 0 || what > 2) {
            return NO_SUCH;
        }
        int snows = drawnSnows(seed);
        if (what == 0) {
            return snows;
        }
        followSnows(snows, now.weeks);
        return what == 1 ? trial.spread(now) : trial.reachedBits(now);
    }

    public int luck(int seed, int n, int letter) {
        if (!isSeed(seed) || n < 1 || n > MOST_YEARS || !isLetter(letter)) {
            return NO_SUCH;
        }
        int count = 0;
        for (int i = 0; i < n; i++) {
            followSnows(drawnSnows(seed + i), now.weeks);
            if (trial.reaches(now, letter)) {
                count++;
            }
        }
        return count;
    }

    private int drawnSnows(int seed) {
        long x = seed;
        int bits = 0;
        for (int week = 0; week < now.weeks; week++) {
            x = 1103515245L * x + 12345L & 0x7fffffffL;
            if (x / 65536 % 10 < now.odds) {
                bits |= 1 << week;
            }
        }
        return bits;
    }

    // ---- other changes, counts and images

    public int rate(int house, int n) {
        if (!isHouse(house) || n < 0 || n > MOST_PUSH) {
            return NO_SUCH;
        }
        if (now.acts.size > 0) {
            return NOT_NOW;
        }
        int before = now.push[house];
        now.push[house] = n;
        renew();
        return before;
    }

    public int count(int what) {
        switch (what) {
            case 0:
                return now.weeks;
            case 1:
                return now.law;
            case 2:
                return now.heavy;
            case 3:
                return now.odds;
            case 4:
                return now.houses;
            case 5:
                return now.placeLines;
            case 6:
                return now.snowLines;
            case 7:
                return now.letters;
            case 8:
                return now.acts.size;
            case 9:
                return now.lines;
            case 10:
                return tape.size;
            case 11:
                return rowsThere();
            default:
                return NONE;
        }
    }

    private int rowsThere() {
        int count = 0;
        for (int slot = 0; slot < SLOTS; slot++) {
            if (slots[slot].isThere()) {
                count++;
            }
        }
        return count;
    }

    public int image(int k) {
        if (k < 0 || k >= IMAGES) {
            return NO_SUCH;
        }
        images[k].copyFrom(now);
        imageKept[k] = true;
        return 0;
    }

    public int back(int k) {
        if (k < 0 || k >= IMAGES) {
            return NO_SUCH;
        }
        if (!imageKept[k]) {
            return HAS_NOTHING;
        }
        now.copyFrom(images[k]);
        renew();
        return 0;
    }

    // ---- rows of numbers

    public int row(int slot, int width, int n) {
        if (!isSlot(slot) || width < 0 || width >= WIDTHS || n > MOST_NUMBERS) {
            return NO_SUCH;
        }
        if (n < 0) {
            return SIZE_BELOW_ZERO;
        }
        slots[slot].begin(width, n);
        return 0;
    }

    public int write(int slot, int i, long v) {
        if (!isSlot(slot)) {
            return NO_SUCH;
        }
        Row row = slots[slot];
        if (!row.isThere()) {
            return HAS_NOTHING;
        }
        if (i < 0 || i >= row.size) {
            return BEYOND;
        }
        row.numbers[i] = cut(v, row.width);
        return 0;
    }

    public int paste(int slot, int i, int to, int k, int n) {
        if (!isSlot(slot) || !isSlot(to)) {
            return NO_SUCH;
        }
        Row from = slots[slot];
        Row into = slots[to];
        if (!from.isThere() || !into.isThere()) {
            return HAS_NOTHING;
        }
        if (from.width != into.width) {
            return OTHER_WIDTH;
        }
        if (!from.spans(i, n) || !into.spans(k, n)) {
            return BEYOND;
        }
        System.arraycopy(from.numbers, i, into.numbers, k, n);
        return 0;
    }

    private static long cut(long v, int width) {
        switch (width) {
            case 0:
                return (byte) v;
            case 1:
                return (short) v;
            case 2:
                return (int) v;
            default:
                return v;
        }
    }

    // ---- what there is

    private boolean hasTown() {
        return now.lines > 0;
    }

    private boolean isHouse(int house) {
        return house >= 0 && house < now.houses;
    }

    private boolean isPair(int house, int partner) {
        return isHouse(house) && isHouse(partner) && house != partner;
    }

    private boolean isPlace(int place) {
        return place >= 0 && place < now.houses;
    }

    private boolean isLetter(int letter) {
        return letter >= 0 && letter < now.letters;
    }

    private boolean isWeek(int week) {
        return hasTown() && week >= 0 && week <= now.weeks;
    }

    private boolean isTurningWeek(int week) {
        return hasTown() && week >= 0 && week < now.weeks;
    }

    private boolean isChanceWeek(int week) {
        return isTurningWeek(week) && week <= LAST_CHANCE_WEEK;
    }

    private static boolean isTurn(int n) {
        return n >= -MOST_TURN && n <= MOST_TURN;
    }

    private static boolean isPart(int what) {
        return what == 0 || what == 1;
    }

    private static boolean isSeed(int seed) {
        return seed >= 0 && seed <= LAST_SEED;
    }

    private static boolean isSlot(int slot) {
        return slot >= 0 && slot < SLOTS;
    }

    // ---- what the year as told says

    private void renew() {
        plan.asTold(now);
        told.follow(now, plan);
        worthsKnown = false;
    }

    private int backHomeBits(int week) {
        int bits = 0;
        for (int house = 0; house < now.houses; house++) {
            if (told.spot(house, week) == told.spot(house, 0)) {
                bits |= 1 << house;
            }
        }
        return bits;
    }

    private int firstWeekOn(int house, int place, int fromWeek) {
        for (int week = fromWeek; week <= now.weeks; week++) {
            if (told.spot(house, week) == place) {
                return week;
            }
        }
        return NONE;
    }

    private int distance(int house, int partner, int week) {
        return round(told.spot(partner, week) - told.spot(house, week), now.houses);
    }

    private int neighbour(int house, int steps, int week) {
        return told.houseOn(round(told.spot(house, week) + steps, now.houses), week, now.houses);
    }

    // ---- arithmetic

    private static int lowBits(int count) {
        return (1 << count) - 1;
    }

    private static int bitOf(int bits, int i) {
        return bits >> i & 1;
    }

    private static int round(int n, int houses) {
        return houses < 1 ? 0 : Math.floorMod(n, houses);
    }

    private static int signed(int push, int leanBits, int house) {
        return bitOf(leanBits, house) == 1 ? -push : push;
    }

    private static int turnBy(int law, int heavy, int force, int week, int houses) {
        int whole = heavy < 1 ? 0 : force / heavy;
        switch (law) {
            case 0:
                return whole;
            case 1:
                return Integer.compare(whole, 0);
            case 2:
                return round(force, houses);
            default:
                return week % 2 == 0 ? whole : 0;
        }
    }

    private static long power(int base, int exponent) {
        long product = 1;
        for (int i = 0; i < exponent; i++) {
            product *= base;
        }
        return product;
    }

    private static long fractionPart(long above, long below, int what) {
        long divisor = commonDivisor(Math.abs(above), below);
        if (divisor < 1) {
            return what;
        }
        return (what == 0 ? above : below) / divisor;
    }

    private static long commonDivisor(long a, long b) {
        // Two numbers below 10 ^ 11 come to their end in far fewer steps.
        for (int step = 0; step < 200 && b != 0; step++) {
            long rest = a % b;
            a = b;
            b = rest;
        }
        return a;
    }

    /** What was told of a town, and what was done in it. Without lines there is none. */
    private static final class Town {
        int lines;
        int weeks;
        int law;
        int heavy;
        int odds;
        int houses;
        int placeLines;
        int snowLines;
        int letters;
        int leanBits;
        int snowBits;
        final int[] push = new int[MOST_HOUSES];
        final int[] sunOn = new int[MOST_HOUSES];
        final int[] smellOf = new int[MOST_HOUSES];
        final int[] letterHouse = new int[MOST_LETTERS];
        final int[] letterPlace = new int[MOST_LETTERS];
        final int[] letterWeek = new int[MOST_LETTERS];
        final Acts acts = new Acts();

        void clear() {
            lines = 0;
            weeks = 0;
            law = 0;
            heavy = 0;
            odds = 0;
            houses = 0;
            placeLines = 0;
            snowLines = 0;
            letters = 0;
            leanBits = 0;
            snowBits = 0;
            Arrays.fill(sunOn, 0);
            Arrays.fill(smellOf, 0);
            acts.keepFirst(0);
        }

        void copyFrom(Town from) {
            lines = from.lines;
            weeks = from.weeks;
            law = from.law;
            heavy = from.heavy;
            odds = from.odds;
            houses = from.houses;
            placeLines = from.placeLines;
            snowLines = from.snowLines;
            letters = from.letters;
            leanBits = from.leanBits;
            snowBits = from.snowBits;
            System.arraycopy(from.push, 0, push, 0, MOST_HOUSES);
            System.arraycopy(from.sunOn, 0, sunOn, 0, MOST_HOUSES);
            System.arraycopy(from.smellOf, 0, smellOf, 0, MOST_HOUSES);
            System.arraycopy(from.letterHouse, 0, letterHouse, 0, MOST_LETTERS);
            System.arraycopy(from.letterPlace, 0, letterPlace, 0, MOST_LETTERS);
            System.arraycopy(from.letterWeek, 0, letterWeek, 0, MOST_LETTERS);
            acts.repeat(from.acts);
        }
    }

    /** Houses that stay in and that are exchanged, in the order in which that was said. */
    private static final class Acts {
        int size;
        final int[] house = new int[MOST_ACTS];
        final int[] partner = new int[MOST_ACTS]; // NONE: the house stays in
        final int[] week = new int[MOST_ACTS];
        // Years are followed far more often than acts are said, so each week's are at hand.
        final int[] stayBits = new int[MOST_WEEKS];
        int swapWeeks;

        void add(int actHouse, int actPartner, int actWeek) {
            if (size < MOST_ACTS) {
                house[size] = actHouse;
                partner[size] = actPartner;
                week[size] = actWeek;
                note(size);
                size++;
            }
        }

        void keepFirst(int count) {
            size = count;
            noteAll();
        }

        void repeat(Acts from) {
            size = from.size;
            System.arraycopy(from.house, 0, house, 0, MOST_ACTS);
            System.arraycopy(from.partner, 0, partner, 0, MOST_ACTS);
            System.arraycopy(from.week, 0, week, 0, MOST_ACTS);
            noteAll();
        }

        private void noteAll() {
            Arrays.fill(stayBits, 0);
            swapWeeks = 0;
            for (int i = 0; i < size; i++) {
                note(i);
            }
        }

        private void note(int i) {
            if (partner[i] == NONE) {
                stayBits[week[i]] |= 1 << house[i];
            } else {
                swapWeeks |= 1 << week[i];
            }
        }
    }

    /** The bytes that were fed, and how a town is read from them, up to the first fault. */
    private static final class Tape {
        private static final int AT_END = 0;
        private static final int WORD = 1;
        private static final int NUMBER = 2;
        private static final int SEMICOLON = 3;
        private static final int NO_TOKEN = 4;
        private static final int TOO_LARGE = 1000000;

        int size = 0;
        int fault = 0;
        int faultPlace = NONE;
        // What is read, right or not; the town in use is another one.
        Town draft = new Town();
        private final byte[] bytes = new byte[MOST_BYTES];
        private int kind;
        private int start;
        private int stop;
        private int number;

        void add(int four) {
            for (int shift = 24; shift >= 0; shift -= 8) {
                if (size < MOST_BYTES) {
                    bytes[size] = (byte) (four >>> shift);
                    size++;
                }
            }
        }

        void read() {
            draft.clear();
            fault = 0;
            faultPlace = NONE;
            stop = 0;
            step();
            for (int i = 0; i <= size && kind != AT_END && fault == 0; i++) {
                readLine();
            }
        }

        private void readLine() {
            if (draft.lines == 0) {
                readTown();
            } else if (isWord("house")) {
                readHouse();
            } else if (isWord("place")) {
                readPlace();
            } else if (isWord("snow")) {
                readSnow();
            } else if (isWord("letter")) {
                readLetter();
            } else {
                fail(1);
            }
            takeSemicolon();
            if (fault == 0) {
                draft.lines++;
            }
        }

        private void readTown() {
            takeWord("town");
            draft.weeks = takeNumberOf("weeks", 1, MOST_WEEKS);
            draft.law = takeNumberOf("law", 0, LAWS - 1);
            draft.heavy = takeNumberOf("heavy", 1, MOST_HEAVY);
            draft.odds = takeNumberOf("odds", 0, MOST_ODDS);
        }

        private void readHouse() {
            startLine(draft.houses, MOST_HOUSES);
            int push = takeNumberOf("push", 0, MOST_PUSH);
            if (fault != 0) {
                return;
            }
            if (isWord("leans")) {
                draft.leanBits |= 1 << draft.houses;
                step();
            }
            draft.push[draft.houses] = push;
            draft.houses++;
        }

        private void readPlace() {
            startLine(draft.placeLines, MOST_PLACE_LINES);
            int place = takeNumber(0, MOST_HOUSES - 1);
            int sunny = takeNumberOf("sun", 0, 20);
            int smelly = takeNumberOf("smell", 0, 20);
            if (fault == 0) {
                draft.sunOn[place] = sunny;
                draft.smellOf[place] = smelly;
                draft.placeLines++;
            }
        }

        private void readSnow() {
            startLine(draft.snowLines, MOST_SNOWS);
            int week = takeNumberOf("at", 0, MOST_WEEKS - 1);
            if (fault == 0) {
                draft.snowBits |= 1 << week;
                draft.snowLines++;
            }
        }

        private void readLetter() {
            startLine(draft.letters, MOST_LETTERS);
            int house = takeNumber(0, draft.houses - 1);
            int place = takeNumberOf("to", 0, MOST_HOUSES - 1);
            int week = takeNumberOf("at", 0, MOST_WEEKS - 1);
            if (fault == 0) {
                draft.letterHouse[draft.letters] = house;
                draft.letterPlace[draft.letters] = place;
                draft.letterWeek[draft.letters] = week;
                draft.letters++;
            }
        }

        private void startLine(int before, int most) {
            if (before >= most) {
                fail(3);
            } else {
                step();
            }
        }

        private void takeWord(String word) {
            if (fault != 0) {
                return;
            }
            if (isWord(word)) {
                step();
            } else {
                fail(1);
            }
        }

        private void takeSemicolon() {
            if (fault != 0) {
                return;
            }
            if (kind == SEMICOLON) {
                step();
            } else {
                fail(1);
            }
        }

        private int takeNumberOf(String word, int least, int most) {
            takeWord(word);
            return takeNumber(least, most);
        }

        private int takeNumber(int least, int most) {
            if (fault != 0) {
                return least;
            }
            if (kind != NUMBER) {
                fail(1);
                return least;
            }
            if (number < least || number > most) {
                fail(2);
                return least;
            }
            int taken = number;
            step();
            return taken;
        }

        // A line is left at its first fault, so no later one may take its place.
        private void fail(int what) {
            if (fault == 0) {
                fault = what;
                faultPlace = start;
            }
        }

        private boolean isWord(String word) {
            if (kind != WORD || stop - start != word.length()) {
                return false;
            }
            for (int i = 0; i < word.length(); i++) {
                if (bytes[start + i] != word.charAt(i)) {
                    return false;
                }
            }
            return true;
        }

        private void step() {
            start = stop;
            while (start < size && (bytes[start] == ' ' || bytes[start] == '\n')) {
                start++;
            }
            stop = start;
            number = 0;
            kind = start < size ? kindOf(bytes[start]) : AT_END;
            if (kind == SEMICOLON || kind == NO_TOKEN) {
                stop++;
                return;
            }
            while (stop < size && kindOf(bytes[stop]) == kind) {
                if (kind == NUMBER) {
                    number = Math.min(TOO_LARGE, number * 10 + bytes[stop] - '0');
                }
                stop++;
            }
        }

        private static int kindOf(int sign) {
            if (sign >= 'a' && sign <= 'z') {
                return WORD;
            }
            if (sign >= '0' && sign <= '9') {
                return NUMBER;
            }
            return sign == ';' ? SEMICOLON : NO_TOKEN;
        }
    }

    /** By what a year is followed: as told, but for what a call asks in its place. */
    private static final class Plan {
        int law;
        int heavy;
        int leanBits;
        int snowBits;
        int stayBits; // in all weeks, besides acts
        int first; // NONE, or exchanged with the second ahead of all acts
        int second;
        int until;

        void asTold(Town town) {
            law = town.law;
            heavy = town.heavy;
            leanBits = town.leanBits;
            snowBits = town.snowBits;
            stayBits = 0;
            first = NONE;
            second = NONE;
            until = town.weeks;
        }
    }

    /** Where the houses are, how hard they push and how far the street turns, week by week. */
    private static final class Year {
        private final int[] spots = new int[(MOST_WEEKS + 1) * MOST_HOUSES];
        private final int[] efforts = new int[MOST_WEEKS * MOST_HOUSES];
        final int[] forces = new int[MOST_WEEKS];
        final int[] turns = new int[MOST_WEEKS];

        int spot(int house, int week) {
            return spots[week * MOST_HOUSES + house];
        }

        int effort(int house, int week) {
            return efforts[week * MOST_HOUSES + house];
        }

        int houseOn(int place, int week, int houses) {
            for (int house = 0; house < houses; house++) {
                if (spot(house, week) == place) {
                    return house;
                }
            }
            return NONE;
        }

        void follow(Town town, Plan plan) {
            for (int house = 0; house < town.houses; house++) {
                spots[house] = house;
            }
            if (plan.first != NONE) {
                exchange(plan.first, plan.second, 0);
            }
            for (int week = 0; week < plan.until; week++) {
                exchangeAll(town.acts, week);
                pushAll(town, plan, week);
                turns[week] = turnBy(plan.law, plan.heavy, forces[week], week, town.houses);
                carryAll(town.houses, week);
            }
            exchangeAll(town.acts, plan.until);
        }

        private void exchangeAll(Acts acts, int week) {
            if (bitOf(acts.swapWeeks, week) == 0) {
                return;
            }
            for (int i = 0; i < acts.size; i++) {
                if (acts.week[i] == week && acts.partner[i] != NONE) {
                    exchange(acts.house[i], acts.partner[i], week);
                }
            }
        }

        private void exchange(int house, int partner, int week) {
            int kept = spot(house, week);
            spots[week * MOST_HOUSES + house] = spot(partner, week);
            spots[week * MOST_HOUSES + partner] = kept;
        }

        private void pushAll(Town town, Plan plan, int week) {
            int stayBits = plan.stayBits | town.acts.stayBits[week];
            boolean snowy = bitOf(plan.snowBits, week) == 1;
            int force = 0;
            for (int house = 0; house < town.houses; house++) {
                int place = spot(house, week);
                boolean out = bitOf(stayBits, house) == 0
                        && (!snowy || place == 0 || place == town.houses - 1);
                int push = out ? Math.max(0, town.push[house] - town.smellOf[place]) : 0;
                efforts[week * MOST_HOUSES + house] = push;
                force += signed(push, plan.leanBits, house);
            }
            forces[week] = force;
        }

        private void carryAll(int houses, int week) {
            for (int house = 0; house < houses; house++) {
                spots[(week + 1) * MOST_HOUSES + house] = round(spot(house, week) + turns[week], houses);
            }
        }

        int sunTo(Town town, int house, int week) {
            int sum = 0;
            for (int w = 0; w <= week; w++) {
                sum += town.sunOn[spot(house, w)];
            }
            return sum;
        }

        int spread(Town town) {
            if (town.houses == 0) {
                return 0;
            }
            int least = sunTo(town, 0, town.weeks);
            int most = least;
            for (int house = 1; house < town.houses; house++) {
                int sum = sunTo(town, house, town.weeks);
                least = Math.min(least, sum);
                most = Math.max(most, sum);
            }
            return most - least;
        }

        boolean reaches(Town town, int letter) {
            int week = town.letterWeek[letter];
            return week <= town.weeks && spot(town.letterHouse[letter], week) == town.letterPlace[letter];
        }

        int reachedBits(Town town) {
            int bits = 0;
            for (int letter = 0; letter < town.letters; letter++) {
                if (reaches(town, letter)) {
                    bits |= 1 << letter;
                }
            }
            return bits;
        }
    }

    /** How often each turn came. */
    private static final class Tally {
        private final int[] counts = new int[2 * MOST_TURN + 1];

        void clear() {
            Arrays.fill(counts, 0);
        }

        int add(int turned) {
            if (turned < -MOST_TURN || turned > MOST_TURN) {
                return 0;
            }
            counts[turned + MOST_TURN]++;
            return counts[turned + MOST_TURN];
        }
    }

    /** The sets of houses that can lean by what was seen, and how the street turns by each. */
    private static final class Seen {
        int sets;
        int inAll;
        int inAny;
        private final short[] turns = new short[MOST_SETS * MOST_WEEKS];

        void begin(int allHouses) {
            sets = 0;
            inAll = allHouses;
            inAny = 0;
        }

        void add(int set, Year year, int weeks) {
            if (sets >= MOST_SETS) {
                return;
            }
            for (int week = 0; week < weeks; week++) {
                turns[sets * MOST_WEEKS + week] = (short) year.turns[week];
            }
            inAll &= set;
            inAny |= set;
            sets++;
        }

        int worst(int week, Tally tally) {
            tally.clear();
            int most = 0;
            for (int i = 0; i < sets; i++) {
                most = Math.max(most, tally.add(turns[i * MOST_WEEKS + week]));
            }
            return most;
        }
    }

    /** A slot: a row of numbers of one width, or nothing. */
    private static final class Row {
        final long[] numbers = new long[MOST_NUMBERS];
        int width;
        int size = NONE;

        boolean isThere() {
            return size != NONE;
        }

        void begin(int newWidth, int newSize) {
            width = newWidth;
            size = newSize;
            Arrays.fill(numbers, 0L);
        }

        boolean spans(int from, int n) {
            return from >= 0 && n >= 0 && from <= size && n <= size - from;
        }

        boolean hasPairs(int lastWeek, int least, int most) {
            if (size % 2 != 0) {
                return false;
            }
            for (int i = 0; i + 1 < size; i += 2) {
                boolean isWeek = numbers[i] >= 0 && numbers[i] <= lastWeek;
                if (!isWeek || numbers[i + 1] < least || numbers[i + 1] > most) {
                    return false;
                }
            }
            return true;
        }

        boolean fitsTurns(Year year) {
            for (int i = 0; i + 1 < size; i += 2) {
                if (year.turns[(int) numbers[i]] != numbers[i + 1]) {
                    return false;
                }
            }
            return true;
        }

        boolean fitsPlaces(Year year, int house) {
            for (int i = 0; i + 1 < size; i += 2) {
                if (year.spot(house, (int) numbers[i]) != numbers[i + 1]) {
                    return false;
                }
            }
            return true;
        }
    }
}
