/** A town on stilts, told by a text: its heights, stairs, tide, works, looks, falls, votes and marks. */
public final class StiltTown {
    public static final int NONE = -1;

    private static final int NOTHING = -2;
    private static final int GROUND_END = -1;
    private static final int NOT_LEFT_OUT = -1;
    private static final int HIGHEST = 99;
    private static final int NOON = 12;
    private static final int HOURS = 24;
    private static final int MONTHS = 12;

    private static final int MOST_BYTES = 2000;
    private static final int MOST_TOKENS = 400;
    private static final int MOST_HOUSES = 16;
    private static final int MOST_OFFICES = 12;
    private static final int MOST_INS = 12;
    private static final int MOST_STAIRS = 12;
    private static final int MOST_QUAYS = 4;
    private static final int MOST_WOODS = 8;
    private static final int MOST_RULES = 4;
    private static final int MOST_WORKS = 40;
    private static final int MOST_LOTS = 20;
    private static final int MOST_LOGS = 60;
    private static final int MOST_YEARS = 12;
    private static final int SLOTS = 2;

    // Kinds of TOKENS. The words come first, and those that are VARS stand together from SWAY to GONE.
    private static final int HOUSE = 0;
    private static final int OFFICE = 1;
    private static final int IN = 2;
    private static final int STAIR = 3;
    private static final int QUAY = 4;
    private static final int WOOD = 5;
    private static final int CREWS = 6;
    private static final int JACK = 7;
    private static final int FALLS = 8;
    private static final int BAD = 9;
    private static final int TIDE = 10;
    private static final int DUE = 11;
    private static final int SWAY = 12;
    private static final int HEIGHT = 13;
    private static final int RANK = 14;
    private static final int LOAD = 15;
    private static final int X = 16;
    private static final int HOUR = 17;
    private static final int MONTH = 18;
    private static final int WIND = 19;
    private static final int GONE = 20;
    private static final int GROUND = 21;
    private static final int IF = 22;
    private static final int OR = 23;
    private static final int AND = 24;
    private static final int NOT = 25;
    private static final int NAME = 26;
    private static final int INT = 27;
    private static final int SEMICOLON = 28;
    private static final int ASSIGN = 29;
    private static final int PLUS = 30;
    private static final int MINUS = 31;
    private static final int TIMES = 32;
    private static final int OVER = 33;
    private static final int EQUAL = 34;
    private static final int UNEQUAL = 35;
    private static final int LESS = 36;
    private static final int AT_MOST = 37;
    private static final int OPEN = 38;
    private static final int CLOSE = 39;
    private static final int END = 40;
    private static final int NO_TOKEN = 41;

    private static final int SYNTAX_FAULT = 1;
    private static final int ROOM_FAULT = 2;
    private static final int TWICE_FAULT = 3;
    private static final int NAME_FAULT = 4;
    private static final int WRONG_FAULT = 5;

    private final Reader reader = new Reader();
    private final Tokens tokens = reader.tokens;
    private final Yard yard = new Yard();
    private final Works works = new Works();
    private final Nights plan = new Nights();
    private final Falls falls = new Falls();
    private final Row row = new Row();
    private final State[] slots = new State[SLOTS];
    private final boolean[] held = new boolean[SLOTS];
    private Town town = new Town();
    private State now = new State();

    public StiltTown() {
        for (int i = 0; i < SLOTS; i++) {
            slots[i] = new State();
        }
    }

    public int feed(int a, int b, int c, int d, int e) {
        if (tokens.size > MOST_BYTES - 20) {
            return NONE;
        }
        tokens.append(a);
        tokens.append(b);
        tokens.append(c);
        tokens.append(d);
        tokens.append(e);
        return tokens.size;
    }

    public int back(int n) {
        if (n < 0 || n > tokens.size) {
            return NONE;
        }
        tokens.size -= n;
        return tokens.size;
    }

    public int read() {
        tokens.scan();
        int fault = reader.readText();
        tokens.size = 0;
        if (fault == 0) {
            moveIn();
        }
        return fault;
    }

    private void moveIn() {
        Town oldTown = town;
        town = reader.town;
        reader.town = oldTown;
        State old = now;
        now = reader.state;
        reader.state = old;
        works.dropLots();
        row.size = 0;
        for (int i = 0; i < SLOTS; i++) {
            held[i] = false;
        }
    }

    public int place() {
        return reader.place;
    }

    public int house(int house, int what) {
        if (!isHouse(house)) {
            return NONE;
        }
        switch (what) {
            case 0: return town.x[house];
            case 1: return now.height[house];
            case 2: return town.load[house];
            case 3: return now.office[house] == NONE ? NOTHING : now.office[house];
            case 4: return town.rankOf(now, house);
            case 5: return town.dueOf(now, house);
            default: return NONE;
        }
    }

    public boolean give(int house, int office) {
        if (!isHouse(house) || office != NONE && !isOffice(office)) {
            return false;
        }
        now.settle(house, office);
        return true;
    }

    public int holder(int office) {
        return isOffice(office) ? now.whoIsIn(office) : NONE;
    }

    public int months(int n) {
        if (!within(n, 0, 240)) {
            return NONE;
        }
        now.month = (now.month + n) % MONTHS;
        return now.month;
    }

    public int tide(int hour) {
        return isHour(hour) ? town.tideAt(now, hour) : NONE;
    }

    public int wet(int hour) {
        return isHour(hour) ? town.wetBits(now.height, town.tideAt(now, hour)) : NONE;
    }

    public int reached(int hour) {
        return isHour(hour) ? town.reachedBits(now.height, town.tideAt(now, hour)) : NONE;
    }

    public int hours(int house) {
        if (!isHouse(house)) {
            return NONE;
        }
        int many = 0;
        for (int hour = 0; hour < HOURS; hour++) {
            many += town.reachedBits(now.height, town.tideAt(now, hour)) >> house & 1;
        }
        return many;
    }

    public int meets(int stair) {
        if (!isStair(stair)) {
            return NONE;
        }
        return town.stairMeets(now.height, stair) ? 1 : 0;
    }

    public int cut(int which, boolean stair, int hour) {
        if (!(stair ? isStair(which) : isHouse(which)) || !isHour(hour)) {
            return NONE;
        }
        return town.cutBy(which, stair, now.height, town.tideAt(now, hour));
    }

    public int worst(boolean stair, int hour) {
        if (!isHour(hour)) {
            return NONE;
        }
        int tide = town.tideAt(now, hour);
        int many = stair ? town.stairs : town.houses;
        int worst = NOTHING;
        int most = -1;
        for (int i = 0; i < many; i++) {
            int cut = town.cutBy(i, stair, now.height, tide);
            if (cut > most) {
                most = cut;
                worst = i;
            }
        }
        return worst;
    }

    public int law(int what) {
        switch (what) {
            case 0: return Integer.bitCount(town.untrueBits(now));
            case 1: return town.turnedPairs(now);
            case 2: return Integer.bitCount(town.badBits(now));
            case 3: return town.untrueBits(now);
            case 4: return town.badBits(now);
            default: return NONE;
        }
    }

    public int wood(int i) {
        return isWood(i) ? now.wood[i] : NONE;
    }

    public int jack(int n, int what) {
        if (!within(n, 1, HIGHEST) || what != 0 && (what < 10 || !isWood(what - 10))) {
            return NONE;
        }
        if (!yard.choose(town, now.wood, n)) {
            return NOTHING;
        }
        return what == 0 ? yard.pieces : yard.used[what - 10];
    }

    public int work(int night, int house, int inches) {
        if (!within(night, 0, 99) || !isHouse(house) || inches == 0 || !within(inches, -99, 99)) {
            return NONE;
        }
        return now.tellWork(night, house, inches);
    }

    public int forget() {
        int many = now.works;
        now.works = 0;
        return many;
    }

    public int judge() {
        return works.verdict(town, now, yard);
    }

    public int done() {
        if (now.works == 0) {
            return 0;
        }
        if (works.verdict(town, now, yard) != 0) {
            return NOTHING;
        }
        works.carryOut(now);
        return works.taken;
    }

    public boolean undo() {
        return works.takeBack(now);
    }

    public int nights(int what) {
        if (!within(what, 0, 2)) {
            return NONE;
        }
        int untrue = town.untrueBits(now);
        if (what == 2) {
            return (Integer.bitCount(untrue) + town.crews - 1) / Math.max(1, town.crews);
        }
        if (Integer.bitCount(untrue) > Nights.MOST) {
            return NOTHING;
        }
        if (untrue == 0) {
            return 0;
        }
        plan.search(town, now, untrue);
        if (plan.fewest() == NOTHING) {
            return NOTHING;
        }
        return what == 0 ? plan.fewest() : plan.firstNight(town.crews);
    }

    public int looks(int house, int other) {
        if (!isHouse(house) || !isHouse(other) || house == other) {
            return NONE;
        }
        return town.seesInto(now.height, house, other) ? 1 : 0;
    }

    public int light(int house) {
        return isHouse(house) ? town.lightOf(now.height, house) : NONE;
    }

    public int sway(int house, int wind) {
        return isHouse(house) && isWind(wind) ? town.swayOf(now, house, wind) : NONE;
    }

    public int chain(int house, int wind, int what) {
        boolean ofHouse = what >= 10 && isHouse(what - 10);
        if (!isHouse(house) || !isWind(wind) || what != 0 && what != 1 && !ofHouse) {
            return NONE;
        }
        falls.prepare(town);
        int many = falls.startAt(town, now, house, wind);
        if (ofHouse) {
            return falls.round[what - 10];
        }
        return what == 0 ? many : falls.lastRound;
    }

    public int dread(int wind) {
        if (!isWind(wind)) {
            return NONE;
        }
        falls.prepare(town);
        int dread = NOTHING;
        int most = 0;
        for (int h = 0; h < town.houses; h++) {
            int many = falls.startAt(town, now, h, wind);
            if (many > most) {
                most = many;
                dread = h;
            }
        }
        return dread;
    }

    public int year(int due) {
        return within(due, 0, HIGHEST) ? row.add(due) : NONE;
    }

    public int clear() {
        int many = row.size;
        row.size = 0;
        return many;
    }

    public int posts(int h0, int slack, int u, int s, int c) {
        if (!arePosts(h0, slack, u, s, c)) {
            return NONE;
        }
        row.prices(slack, u, s, c);
        return row.fill(h0);
    }

    public int postAt(int h0, int slack, int u, int s, int c, int i) {
        if (!arePosts(h0, slack, u, s, c) || !within(i, 0, row.size - 1)) {
            return NONE;
        }
        row.prices(slack, u, s, c);
        row.fill(h0);
        return row.heightIn(h0, i);
    }

    public int vote(int house, int office, int other) {
        if (!isHouse(house) || !isOffice(office) || !isHouse(other)) {
            return NONE;
        }
        return now.logs.add(Logs.VOTE, house, office, other);
    }

    public int mark(int house, int year, int height) {
        if (!isHouse(house) || !within(year, 0, 99) || !within(height, 0, HIGHEST)) {
            return NONE;
        }
        return now.logs.add(Logs.MARK, house, year, height);
    }

    public int annul(int log) {
        return now.logs.canBeVoid(log) ? now.logs.add(Logs.VOID, log, 0, 0) : NONE;
    }

    public int votes(int office, int house, int n) {
        if (!isOffice(office) || !isHouse(house) || !isKnown(n)) {
            return NONE;
        }
        now.logs.tally(office, n);
        return now.logs.got[house];
    }

    public int winner(int office, int n) {
        if (!isOffice(office) || !isKnown(n)) {
            return NONE;
        }
        now.logs.tally(office, n);
        int[] got = now.logs.got;
        int best = NOTHING;
        for (int h = 0; h < town.houses; h++) {
            boolean first = best == NOTHING && got[h] > 0;
            if (first || best >= 0 && beats(got, h, best)) {
                best = h;
            }
        }
        return best;
    }

    private boolean beats(int[] got, int house, int other) {
        return got[house] > got[other]
            || got[house] == got[other] && now.height[house] > now.height[other];
    }

    public int ends(int house, int year, int r, int n) {
        if (!isHouse(house) || !within(year, 0, 99) || !within(r, 0, 99) || !isKnown(n)) {
            return NONE;
        }
        return now.logs.endsOf(house, year, r, n);
    }

    public int years(int seed, int n) {
        if (!within(n, 1, 40)) {
            return NONE;
        }
        works.dropLots();
        if (town.houses == 0 || town.offices == 0) {
            return 0;
        }
        int inches = 0;
        // The twelve MONTHS of each YEAR leave MONTH as it is.
        for (int i = 0; i < n; i++) {
            castLots(seed, 10 * i);
            inches += straighten();
        }
        return inches;
    }

    private void castLots(int seed, int which) {
        now.settle(lot(seed, which, town.houses), NONE);
        int office = lot(seed, which + 1, town.offices);
        int house = lot(seed, which + 2, town.houses);
        if (now.whoIsIn(office) == NOTHING) {
            now.settle(house, office);
        }
    }

    private int straighten() {
        int went = 0;
        int inches = 0;
        for (int h = 0; h < town.houses && went < town.crews; h++) {
            int way = town.dueOf(now, h) - now.height[h];
            if (way != 0) {
                way = Math.max(-town.jack, Math.min(town.jack, way));
                now.height[h] += way;
                inches += Math.abs(way);
                went++;
            }
        }
        return inches;
    }

    private static int lot(int seed, int which, int n) {
        int h = stir(stir(seed, 18), which);
        return n <= 0 ? 0 : (h >>> 1) % n;
    }

    private static int stir(int h, int it) {
        int stirred = (h ^ it) * 1103515245 + 12345;
        return stirred ^ stirred >>> 15;
    }

    public boolean hold(int slot) {
        if (!within(slot, 0, SLOTS - 1)) {
            return false;
        }
        slots[slot].copyFrom(now);
        held[slot] = true;
        return true;
    }

    public boolean restore(int slot) {
        if (!within(slot, 0, SLOTS - 1) || !held[slot]) {
            return false;
        }
        now.copyFrom(slots[slot]);
        works.dropLots();
        return true;
    }

    public int count(int what) {
        switch (what) {
            case 0: return town.houses;
            case 1: return town.offices;
            case 2: return town.stairs;
            case 3: return town.quays;
            case 4: return town.woods;
            case 5: return town.crews;
            case 6: return town.jack;
            case 7: return now.works;
            case 8: return now.logs.size;
            case 9: return now.month;
            case 10: return works.lots;
            case 11: return tokens.size;
            case 12: return (held[0] ? 1 : 0) + (held[1] ? 1 : 0);
            case 13: return row.size;
            case 14: return town.laws.falls;
            case 15: return town.laws.bads;
            default: return NONE;
        }
    }

    private boolean isHouse(int house) {
        return house >= 0 && house < town.houses;
    }

    private boolean isOffice(int office) {
        return office >= 0 && office < town.offices;
    }

    private boolean isStair(int stair) {
        return stair >= 0 && stair < town.stairs;
    }

    private boolean isWood(int i) {
        return i >= 0 && i < town.woods;
    }

    private boolean isKnown(int n) {
        return n >= 0 && n <= now.logs.size;
    }

    private static boolean isHour(int hour) {
        return hour >= 0 && hour < HOURS;
    }

    private static boolean isWind(int wind) {
        return within(wind, 0, 99);
    }

    private static boolean arePosts(int h0, int slack, int u, int s, int c) {
        return within(h0, 0, HIGHEST) && within(slack, 0, 99) && within(u, 0, 99)
            && within(s, 0, 99) && within(c, 0, 99);
    }

    private static boolean within(int value, int least, int greatest) {
        return value >= least && value <= greatest;
    }

    private static int heldTo99(int value) {
        return Math.max(0, Math.min(HIGHEST, value));
    }

    private static boolean isVar(int kind) {
        return kind >= SWAY && kind <= GONE;
    }

    private static boolean compares(int kind) {
        return kind >= EQUAL && kind <= AT_MOST;
    }

    private static boolean reckons(int kind) {
        return kind >= PLUS && kind <= OVER;
    }

    /** What the text tells and no call changes. */
    private static final class Town {
        final int[] x = new int[MOST_HOUSES];
        final int[] load = new int[MOST_HOUSES];
        final int[] rank = new int[MOST_OFFICES];
        final int[] stairFrom = new int[MOST_STAIRS];
        final int[] stairTo = new int[MOST_STAIRS];
        final int[] reach = new int[MOST_STAIRS];
        final int[] length = new int[MOST_WOODS];
        final Laws laws = new Laws();
        int houses = 0;
        int offices = 0;
        int stairs = 0;
        int quays = 0;
        int quayBits = 0;
        int woods = 0;
        int crews = 2;
        int jack = 10;

        void empty() {
            houses = 0;
            offices = 0;
            stairs = 0;
            quays = 0;
            quayBits = 0;
            woods = 0;
            crews = 2;
            jack = 10;
            laws.empty();
        }

        int rankOf(State state, int house) {
            int office = state.office[house];
            return office >= 0 && office < offices ? rank[office] : 0;
        }

        int tideAt(State state, int hour) {
            laws.wipeVars();
            laws.put(HOUR, hour);
            laws.put(MONTH, state.month);
            return heldTo99(laws.value(laws.tide));
        }

        int dueOf(State state, int house) {
            if (laws.due == NONE) {
                return rankOf(state, house);
            }
            putVars(state, house);
            // HEIGHT is no VAR of due.
            laws.put(HEIGHT, 0);
            return heldTo99(laws.value(laws.due));
        }

        int swayOf(State state, int house, int wind) {
            putVars(state, house);
            laws.put(MONTH, state.month);
            laws.put(WIND, wind);
            return heldTo99(laws.value(laws.sway));
        }

        boolean isBad(State state, int house) {
            int sway = swayOf(state, house, 0);
            laws.put(SWAY, sway);
            return laws.someHolds(laws.bad, laws.bads);
        }

        boolean hasToFall(State state, int house, int wind, int gone) {
            int sway = swayOf(state, house, wind);
            laws.put(SWAY, sway);
            laws.put(GONE, gone);
            return laws.someHolds(laws.fall, laws.falls);
        }

        private void putVars(State state, int house) {
            laws.wipeVars();
            laws.put(HEIGHT, state.height[house]);
            laws.put(RANK, rankOf(state, house));
            laws.put(LOAD, load[house]);
            laws.put(X, x[house]);
        }

        int untrueBits(State state) {
            int bits = 0;
            for (int h = 0; h < houses; h++) {
                if (state.height[h] != dueOf(state, h)) {
                    bits |= 1 << h;
                }
            }
            return bits;
        }

        int badBits(State state) {
            int bits = 0;
            for (int h = 0; h < houses; h++) {
                if (isBad(state, h)) {
                    bits |= 1 << h;
                }
            }
            return bits;
        }

        int turnedPairs(State state) {
            int many = 0;
            for (int a = 0; a < houses; a++) {
                for (int b = 0; b < houses; b++) {
                    if (rankOf(state, a) > rankOf(state, b) && state.height[a] <= state.height[b]) {
                        many++;
                    }
                }
            }
            return many;
        }

        int wetBits(int[] height, int tide) {
            int bits = 0;
            for (int h = 0; h < houses; h++) {
                if (height[h] < tide) {
                    bits |= 1 << h;
                }
            }
            return bits;
        }

        boolean stairMeets(int[] height, int stair) {
            return Math.abs(endHeight(height, stairFrom[stair]) - endHeight(height, stairTo[stair]))
                <= reach[stair];
        }

        private static int endHeight(int[] height, int end) {
            return end >= 0 && end < height.length ? height[end] : 0;
        }

        int reachedBits(int[] height, int tide) {
            return reachedWithout(height, tide, NOT_LEFT_OUT, NOT_LEFT_OUT);
        }

        private int reachedWithout(int[] height, int tide, int noStair, int noHouse) {
            int can = (1 << houses) - 1 & ~wetBits(height, tide) & ~bitOf(noHouse);
            int bits = quayBits & can;
            // Each pass but the last one reaches one more HOUSE at least.
            for (int pass = 0; pass <= houses; pass++) {
                int before = bits;
                for (int s = 0; s < stairs; s++) {
                    if (s != noStair && stairMeets(height, s)) {
                        bits |= behindStair(s, bits, tide) & can;
                    }
                }
                if (bits == before) {
                    break;
                }
            }
            return bits;
        }

        private int behindStair(int stair, int bits, int tide) {
            int from = bitOf(stairFrom[stair]);
            int to = bitOf(stairTo[stair]);
            if (stairTo[stair] == GROUND_END) {
                return tide == 0 ? from : 0;
            }
            return (bits & from) != 0 || (bits & to) != 0 ? from | to : 0;
        }

        private static int bitOf(int house) {
            return house >= 0 && house < MOST_HOUSES ? 1 << house : 0;
        }

        int cutBy(int which, boolean stair, int[] height, int tide) {
            int all = reachedBits(height, tide);
            if (stair) {
                return Integer.bitCount(all & ~reachedWithout(height, tide, which, NOT_LEFT_OUT));
            }
            int left = reachedWithout(height, tide, NOT_LEFT_OUT, which);
            return Integer.bitCount(all & ~left & ~bitOf(which));
        }

        boolean seesInto(int[] height, int house, int other) {
            if (height[house] <= height[other] || x[house] == x[other]) {
                return false;
            }
            int far = Math.abs(x[house] - x[other]);
            for (int h = 0; h < houses; h++) {
                int fromHouse = Math.abs(x[h] - x[house]);
                int fromOther = Math.abs(x[h] - x[other]);
                boolean between = fromHouse > 0 && fromOther > 0 && fromHouse + fromOther == far;
                // The line's height at h, times far, so that nothing is rounded.
                int line = height[house] * fromOther + height[other] * fromHouse;
                if (between && height[h] * far >= line) {
                    return false;
                }
            }
            return true;
        }

        int lightOf(int[] height, int house) {
            int light = 3;
            for (int h = 0; h < houses; h++) {
                int above = height[h] - height[house];
                if (x[h] < x[house] && above >= x[house] - x[h]) {
                    light &= ~1;
                }
                if (x[h] > x[house] && above >= x[h] - x[house]) {
                    light &= ~2;
                }
            }
            return light;
        }

        int neighbours(int house) {
            int bits = 0;
            for (int s = 0; s < stairs; s++) {
                if (stairFrom[s] == house) {
                    bits |= bitOf(stairTo[s]);
                }
                if (stairTo[s] == house) {
                    bits |= bitOf(stairFrom[s]);
                }
            }
            return bits;
        }
    }

    /** What calls change, and what a SLOT holds. */
    private static final class State {
        final int[] height = new int[MOST_HOUSES];
        final int[] office = new int[MOST_HOUSES];
        final int[] wood = new int[MOST_WOODS];
        final int[] night = new int[MOST_WORKS];
        final int[] workHouse = new int[MOST_WORKS];
        final int[] inches = new int[MOST_WORKS];
        final Logs logs = new Logs();
        int works = 0;
        int month = 0;

        void empty() {
            for (int h = 0; h < MOST_HOUSES; h++) {
                height[h] = 0;
                office[h] = NONE;
            }
            works = 0;
            month = 0;
            logs.size = 0;
        }

        void copyFrom(State other) {
            System.arraycopy(other.height, 0, height, 0, MOST_HOUSES);
            System.arraycopy(other.office, 0, office, 0, MOST_HOUSES);
            System.arraycopy(other.wood, 0, wood, 0, MOST_WOODS);
            System.arraycopy(other.night, 0, night, 0, MOST_WORKS);
            System.arraycopy(other.workHouse, 0, workHouse, 0, MOST_WORKS);
            System.arraycopy(other.inches, 0, inches, 0, MOST_WORKS);
            logs.copyFrom(other.logs);
            works = other.works;
            month = other.month;
        }

        void settle(int house, int which) {
            for (int h = 0; h < MOST_HOUSES; h++) {
                if (h == house) {
                    office[h] = which;
                } else if (office[h] == which) {
                    office[h] = NONE;
                }
            }
        }

        int whoIsIn(int which) {
            for (int h = 0; h < MOST_HOUSES; h++) {
                if (office[h] == which) {
                    return h;
                }
            }
            return NOTHING;
        }

        int tellWork(int onNight, int house, int by) {
            if (works < 0 || works >= MOST_WORKS) {
                return NONE;
            }
            night[works] = onNight;
            workHouse[works] = house;
            inches[works] = by;
            works++;
            return works - 1;
        }
    }

    /** The VOTES, MARKS and VOIDS. */
    private static final class Logs {
        static final int VOTE = 0;
        static final int MARK = 1;
        static final int VOID = 2;

        final int[] kind = new int[MOST_LOGS];
        final int[] who = new int[MOST_LOGS];
        final int[] which = new int[MOST_LOGS];
        final int[] told = new int[MOST_LOGS];
        final boolean[] struck = new boolean[MOST_LOGS];
        final int[] got = new int[MOST_HOUSES];
        int size = 0;

        void copyFrom(Logs other) {
            System.arraycopy(other.kind, 0, kind, 0, MOST_LOGS);
            System.arraycopy(other.who, 0, who, 0, MOST_LOGS);
            System.arraycopy(other.which, 0, which, 0, MOST_LOGS);
            System.arraycopy(other.told, 0, told, 0, MOST_LOGS);
            size = other.size;
        }

        int add(int newKind, int newWho, int newWhich, int newTold) {
            if (size < 0 || size >= MOST_LOGS) {
                return NONE;
            }
            kind[size] = newKind;
            who[size] = newWho;
            which[size] = newWhich;
            told[size] = newTold;
            size++;
            return size - 1;
        }

        boolean canBeVoid(int log) {
            return log >= 0 && log < size && kind[log] != VOID;
        }

        private void strike(int n) {
            for (int i = 0; i < MOST_LOGS; i++) {
                struck[i] = false;
            }
            for (int i = 0; i < n && i < size; i++) {
                if (kind[i] == VOID && who[i] >= 0 && who[i] < MOST_LOGS) {
                    struck[who[i]] = true;
                }
            }
        }

        void tally(int office, int n) {
            strike(n);
            for (int h = 0; h < MOST_HOUSES; h++) {
                got[h] = 0;
            }
            for (int h = 0; h < MOST_HOUSES; h++) {
                int choice = lastChoice(h, office, n);
                if (choice >= 0 && choice < MOST_HOUSES) {
                    got[choice]++;
                }
            }
        }

        private int lastChoice(int house, int office, int n) {
            int choice = NONE;
            for (int i = 0; i < n && i < size; i++) {
                if (kind[i] == VOTE && !struck[i] && who[i] == house && which[i] == office) {
                    choice = told[i];
                }
            }
            return choice;
        }

        int endsOf(int house, int year, int r, int n) {
            strike(n);
            int least = 0;
            int greatest = HIGHEST;
            for (int i = 0; i < n && i < size; i++) {
                if (isMarkOf(i, house)) {
                    if (contradicted(i, r)) {
                        return NOTHING;
                    }
                    int change = r * Math.abs(year - which[i]);
                    least = Math.max(least, told[i] - change);
                    greatest = Math.min(greatest, told[i] + change);
                }
            }
            return least > greatest ? NOTHING : 100 * least + greatest;
        }

        private boolean isMarkOf(int log, int house) {
            return kind[log] == MARK && !struck[log] && who[log] == house;
        }

        /** Two MARKS that no change of r a YEAR can join leave no height in any YEAR, not just between them. */
        private boolean contradicted(int mark, int r) {
            for (int i = 0; i < mark; i++) {
                if (isMarkOf(i, who[mark])
                    && Math.abs(told[i] - told[mark]) > r * Math.abs(which[i] - which[mark])) {
                    return true;
                }
            }
            return false;
        }
    }

    /** The laws and RULES, each as code for a stack: what is not negative is a number, else -1 less its kind. */
    private static final class Laws {
        // Six brackets within one another keep two numbers each waiting, a COND three more.
        private static final int DEEPEST = 32;

        final int[] code = new int[MOST_TOKENS];
        final int[] fall = new int[MOST_RULES];
        final int[] bad = new int[MOST_RULES];
        final int[] vars = new int[GONE - SWAY + 1];
        final int[] stack = new int[DEEPEST];
        int size = 0;
        int top = 0;
        boolean broken = false;
        int tide = NONE;
        int due = NONE;
        int sway = NONE;
        int falls = 0;
        int bads = 0;

        void empty() {
            size = 0;
            tide = NONE;
            due = NONE;
            sway = NONE;
            falls = 0;
            bads = 0;
        }

        void addNumber(int number) {
            if (size < MOST_TOKENS) {
                code[size] = number;
                size++;
            }
        }

        void addKind(int kind) {
            if (size < MOST_TOKENS) {
                code[size] = -1 - kind;
                size++;
            }
        }

        void tell(int kind, int start) {
            switch (kind) {
                case TIDE: tide = start; break;
                case DUE: due = start; break;
                case SWAY: sway = start; break;
                case FALLS:
                    if (falls < MOST_RULES) {
                        fall[falls] = start;
                        falls++;
                    }
                    break;
                default:
                    if (bads < MOST_RULES) {
                        bad[bads] = start;
                        bads++;
                    }
                    break;
            }
        }

        void wipeVars() {
            for (int i = 0; i < vars.length; i++) {
                vars[i] = 0;
            }
        }

        void put(int kind, int value) {
            if (isVar(kind)) {
                vars[kind - SWAY] = value;
            }
        }

        boolean someHolds(int[] rules, int many) {
            for (int i = 0; i < many && i < rules.length; i++) {
                if (value(rules[i]) != 0) {
                    return true;
                }
            }
            return false;
        }

        /** What the code from start on says; 0 without code (NONE). */
        int value(int start) {
            top = 0;
            broken = false;
            for (int i = start; i >= 0 && i < size; i++) {
                int kind = -1 - code[i];
                if (kind == SEMICOLON) {
                    break;
                }
                if (kind < 0) {
                    push(code[i]);
                } else if (isVar(kind)) {
                    push(vars[kind - SWAY]);
                } else if (kind == NOT) {
                    turnRound();
                } else {
                    join(kind);
                }
            }
            return broken || top == 0 ? 0 : stack[0];
        }

        private void push(int value) {
            if (top >= 0 && top < DEEPEST) {
                stack[top] = value;
                top++;
            }
        }

        private void turnRound() {
            if (top >= 1 && top <= DEEPEST) {
                stack[top - 1] = 1 - stack[top - 1];
            }
        }

        private void join(int kind) {
            if (top < 2 || top > DEEPEST) {
                return;
            }
            int left = stack[top - 2];
            int right = stack[top - 1];
            top--;
            if (compares(kind)) {
                // A division by 0 on either side counts for this LIT alone.
                stack[top - 1] = !broken && holds(kind, left, right) ? 1 : 0;
                broken = false;
            } else if (reckons(kind)) {
                stack[top - 1] = reckon(kind, left, right);
            } else {
                stack[top - 1] = kind == AND ? left & right : left | right;
            }
        }

        private static boolean holds(int kind, int left, int right) {
            switch (kind) {
                case EQUAL: return left == right;
                case UNEQUAL: return left != right;
                case LESS: return left < right;
                default: return left <= right;
            }
        }

        private int reckon(int kind, int left, int right) {
            switch (kind) {
                case PLUS: return left + right;
                case MINUS: return left - right;
                case TIMES: return left * right;
                default:
                    if (right == 0) {
                        broken = true;
                        return 0;
                    }
                    return left / right;
            }
        }
    }

    /** The tape, and the TOKENS that are on it. */
    private static final class Tokens {
        private static final int LONGEST_NAME = 8;
        private static final int LONGEST_INT = 4;

        final byte[] tape = new byte[MOST_BYTES];
        // One more than may be, so that the one too many has its kind and place.
        final int[] kinds = new int[MOST_TOKENS + 1];
        final int[] starts = new int[MOST_TOKENS + 1];
        final long[] values = new long[MOST_TOKENS + 1];
        int size = 0;
        int many = 0;

        void append(int four) {
            for (int shift = 24; shift >= 0; shift -= 8) {
                if (size >= 0 && size < MOST_BYTES) {
                    tape[size] = (byte) (four >>> shift);
                    size++;
                }
            }
        }

        private int byteAt(int place) {
            return place >= 0 && place < size ? tape[place] & 255 : NONE;
        }

        /** Finds the TOKENS up to the end, to what is no TOKEN, or to the first that is too many. */
        void scan() {
            many = 0;
            int place = 0;
            for (int i = 0; i <= MOST_TOKENS; i++) {
                starts[i] = pastBlanks(place);
                place = scanToken(i, starts[i]);
                many++;
                if (kinds[i] == END || kinds[i] == NO_TOKEN) {
                    break;
                }
            }
        }

        private int pastBlanks(int place) {
            int after = place;
            while (after < size && isBlank(byteAt(after))) {
                after++;
            }
            return after;
        }

        private static boolean isBlank(int sign) {
            return sign == 9 || sign == 10 || sign == 13 || sign == 32;
        }

        private int scanToken(int i, int start) {
            int first = byteAt(start);
            values[i] = 0;
            if (first == NONE) {
                kinds[i] = END;
                return start;
            }
            if (within(first, 'a', 'z')) {
                int end = pastRun(start, 'a', 'z');
                values[i] = packed(start, end);
                kinds[i] = end - start > LONGEST_NAME ? NO_TOKEN : wordKind(start, end);
                return end;
            }
            if (within(first, '0', '9')) {
                int end = pastRun(start, '0', '9');
                values[i] = number(start, end);
                kinds[i] = end - start > LONGEST_INT ? NO_TOKEN : INT;
                return end;
            }
            kinds[i] = signKind(first, byteAt(start + 1));
            boolean two = kinds[i] == EQUAL || kinds[i] == UNEQUAL || kinds[i] == AT_MOST;
            return two ? start + 2 : start + 1;
        }

        private int pastRun(int start, int least, int greatest) {
            int end = start;
            while (end < size && within(byteAt(end), least, greatest)) {
                end++;
            }
            return end;
        }

        /** A NAME as one number, five bits a letter. */
        private long packed(int start, int end) {
            long name = 0;
            for (int i = start; i < end; i++) {
                name = name << 5 | byteAt(i) - 'a' + 1;
            }
            return name;
        }

        private int number(int start, int end) {
            int number = 0;
            for (int i = start; i < end; i++) {
                number = number * 10 + byteAt(i) - '0';
            }
            return number;
        }

        private int wordKind(int start, int end) {
            for (int word = HOUSE; word <= NOT; word++) {
                if (spells(spelling(word), start, end)) {
                    return word;
                }
            }
            return NAME;
        }

        private boolean spells(String word, int start, int end) {
            if (word.length() != end - start) {
                return false;
            }
            for (int i = 0; i < word.length(); i++) {
                if (word.charAt(i) != byteAt(start + i)) {
                    return false;
                }
            }
            return true;
        }

        private static String spelling(int word) {
            switch (word) {
                case HOUSE: return "house";
                case OFFICE: return "office";
                case IN: return "in";
                case STAIR: return "stair";
                case QUAY: return "quay";
                case WOOD: return "wood";
                case CREWS: return "crews";
                case JACK: return "jack";
                case FALLS: return "falls";
                case BAD: return "bad";
                case TIDE: return "tide";
                case DUE: return "due";
                case SWAY: return "sway";
                case HEIGHT: return "height";
                case RANK: return "rank";
                case LOAD: return "load";
                case X: return "x";
                case HOUR: return "hour";
                case MONTH: return "month";
                case WIND: return "wind";
                case GONE: return "gone";
                case GROUND: return "ground";
                case IF: return "if";
                case OR: return "or";
                case AND: return "and";
                case NOT: return "not";
                default: return "";
            }
        }

        private static int signKind(int first, int second) {
            switch (first) {
                case ';': return SEMICOLON;
                case '+': return PLUS;
                case '-': return MINUS;
                case '*': return TIMES;
                case '/': return OVER;
                case '(': return OPEN;
                case ')': return CLOSE;
                case '=': return second == '=' ? EQUAL : ASSIGN;
                case '!': return second == '=' ? UNEQUAL : NO_TOKEN;
                case '<': return second == '=' ? AT_MOST : LESS;
                default: return NO_TOKEN;
            }
        }
    }

    /** Reads TOKENS into a Town and a State, up to the first SYNTAX or ROOM FAULT. */
    private static final class Reader {
        private static final int MOST_OPEN = 6;
        // Where in a formula a TOKEN stands.
        private static final int OF_LAW = 0;
        private static final int LEFT = 1;
        private static final int RIGHT = 2;
        private static final int BEHIND = 3;

        final long[] names = new long[MOST_HOUSES + MOST_OFFICES];
        // Whose a NAME is: a HOUSE's number, or an OFFICE's behind all HOUSES.
        final int[] owners = new int[MOST_HOUSES + MOST_OFFICES];
        final int[] waiting = new int[MOST_TOKENS];
        final Tokens tokens = new Tokens();
        // Not those that hold now, so that a text with a FAULT changes nothing.
        Town town = new Town();
        State state = new State();
        int at = 0;
        int fault = 0;
        int place = NONE;
        int lateFault = 0;
        int latePlace = NONE;
        int named = 0;
        int ins = 0;
        int waits = 0;
        int side = OF_LAW;
        int open = 0;
        boolean wantsUnit = false;
        boolean canTurn = false;

        private void begin() {
            town.empty();
            state.empty();
            at = 0;
            fault = 0;
            place = NONE;
            lateFault = 0;
            named = 0;
            ins = 0;
        }

        int readText() {
            begin();
            for (int i = 0; i <= MOST_TOKENS && fault == 0 && kind() != END; i++) {
                int kind = kind();
                switch (kind) {
                    case HOUSE: readHouse(); break;
                    case OFFICE: readOffice(); break;
                    case IN: readIn(); break;
                    case STAIR: readStair(); break;
                    case QUAY: readQuay(); break;
                    case WOOD: readWood(); break;
                    case CREWS: town.crews = readLone(kind, 9); break;
                    case JACK: town.jack = readLone(kind, 99); break;
                    case TIDE: case DUE: case SWAY: readLaw(kind); break;
                    case FALLS: readRule(kind, town.laws.falls); break;
                    case BAD: readRule(kind, town.laws.bads); break;
                    default: fail(SYNTAX_FAULT); break;
                }
            }
            if (fault == 0 && lateFault != 0) {
                fault = lateFault;
                place = latePlace;
            }
            return fault;
        }

        private int readLone(int kind, int greatest) {
            take(kind);
            int value = readInt(1, greatest);
            take(SEMICOLON);
            return value;
        }

        private void readHouse() {
            int house = town.houses;
            if (!takeFirst(HOUSE, house, MOST_HOUSES)) {
                return;
            }
            readNewName(house);
            town.x[house] = readInt(0, 40);
            state.height[house] = readInt(0, HIGHEST);
            town.load[house] = readInt(1, 9);
            take(SEMICOLON);
            town.houses++;
        }

        private void readOffice() {
            int office = town.offices;
            if (!takeFirst(OFFICE, office, MOST_OFFICES)) {
                return;
            }
            readNewName(MOST_HOUSES + office);
            town.rank[office] = readInt(0, 99);
            take(SEMICOLON);
            town.offices++;
        }

        private void readIn() {
            if (!takeFirst(IN, ins, MOST_INS)) {
                return;
            }
            int house = readHouseName();
            int office = readOfficeName();
            take(SEMICOLON);
            ins++;
            if (house != NONE && office != NONE) {
                state.settle(house, office);
            }
        }

        private void readStair() {
            int stair = town.stairs;
            if (!takeFirst(STAIR, stair, MOST_STAIRS)) {
                return;
            }
            int from = readHouseName();
            int to = GROUND_END;
            if (kind() == GROUND) {
                take(GROUND);
            } else {
                int start = start();
                to = readHouseName();
                if (to != NONE && to == from) {
                    failLate(WRONG_FAULT, start);
                }
            }
            town.stairFrom[stair] = from;
            town.stairTo[stair] = to;
            town.reach[stair] = readInt(0, 99);
            take(SEMICOLON);
            town.stairs++;
        }

        private void readQuay() {
            if (!takeFirst(QUAY, town.quays, MOST_QUAYS)) {
                return;
            }
            int house = readHouseName();
            take(SEMICOLON);
            town.quays++;
            town.quayBits |= Town.bitOf(house);
        }

        private void readWood() {
            int wood = town.woods;
            if (!takeFirst(WOOD, wood, MOST_WOODS)) {
                return;
            }
            town.length[wood] = readInt(1, 60);
            state.wood[wood] = readInt(0, 99);
            take(SEMICOLON);
            town.woods++;
        }

        private void readLaw(int kind) {
            take(kind);
            take(ASSIGN);
            int start = town.laws.size;
            readFormula(OF_LAW);
            town.laws.tell(kind, start);
        }

        private void readRule(int kind, int many) {
            if (!takeFirst(kind, many, MOST_RULES)) {
                return;
            }
            take(IF);
            int start = town.laws.size;
            readFormula(LEFT);
            town.laws.tell(kind, start);
        }

        /** An E or a COND up to its semicolon, turned into code by what binds more tightly. */
        private void readFormula(int from) {
            side = from;
            open = 0;
            waits = 0;
            wantsUnit = true;
            canTurn = from == LEFT;
            for (int i = 0; i <= MOST_TOKENS && fault == 0 && side != BEHIND; i++) {
                if (wantsUnit) {
                    readUnit();
                } else {
                    readBetween();
                }
            }
        }

        private void readUnit() {
            int kind = kind();
            int value = intValue();
            if (kind == NOT && canTurn) {
                take(NOT);
                keepWaiting(NOT);
            } else if (kind == OPEN) {
                readOpen();
            } else if (kind == INT) {
                take(INT);
                town.laws.addNumber(value);
                wantsUnit = false;
            } else if (isVar(kind)) {
                take(kind);
                town.laws.addKind(kind);
                wantsUnit = false;
            } else {
                fail(SYNTAX_FAULT);
            }
        }

        private void readOpen() {
            if (open >= MOST_OPEN) {
                fail(ROOM_FAULT);
                return;
            }
            take(OPEN);
            keepWaiting(OPEN);
            open++;
            canTurn = false;
        }

        private void readBetween() {
            int kind = kind();
            if (reckons(kind)) {
                readJoint(kind, side);
            } else if (open > 0) {
                readClose();
            } else if (side == LEFT && compares(kind)) {
                readJoint(kind, RIGHT);
            } else if (side == RIGHT && (kind == AND || kind == OR)) {
                readJoint(kind, LEFT);
            } else if (side == LEFT) {
                fail(SYNTAX_FAULT);
            } else {
                take(SEMICOLON);
                release(1);
                town.laws.addKind(SEMICOLON);
                side = BEHIND;
            }
        }

        private void readJoint(int kind, int next) {
            take(kind);
            release(bond(kind));
            keepWaiting(kind);
            side = next;
            wantsUnit = true;
            canTurn = kind == AND || kind == OR;
        }

        private void readClose() {
            take(CLOSE);
            release(1);
            if (waits > 0) {
                waits--;
            }
            open--;
        }

        private void keepWaiting(int kind) {
            if (waits >= 0 && waits < MOST_TOKENS) {
                waiting[waits] = kind;
                waits++;
            }
        }

        private void release(int least) {
            for (int i = waits - 1; i >= 0 && i < MOST_TOKENS && bond(waiting[i]) >= least; i--) {
                town.laws.addKind(waiting[i]);
                waits = i;
            }
        }

        /** How tightly a sign binds; an open bracket keeps all ahead of it waiting. */
        private static int bond(int kind) {
            switch (kind) {
                case OR: return 1;
                case AND: return 2;
                case NOT: return 3;
                case PLUS: case MINUS: return 5;
                case TIMES: case OVER: return 6;
                case OPEN: return 0;
                default: return 4;
            }
        }

        private void readNewName(int owner) {
            int start = start();
            long name = value();
            if (!take(NAME)) {
                return;
            }
            if (ownerOf(name) != NONE) {
                failLate(TWICE_FAULT, start);
            }
            if (named >= 0 && named < names.length) {
                names[named] = name;
                owners[named] = owner;
                named++;
            }
        }

        private int readHouseName() {
            int start = start();
            long name = value();
            if (!take(NAME)) {
                return NONE;
            }
            int owner = ownerOf(name);
            if (owner == NONE || owner >= MOST_HOUSES) {
                failLate(NAME_FAULT, start);
                return NONE;
            }
            return owner;
        }

        private int readOfficeName() {
            int start = start();
            long name = value();
            if (!take(NAME)) {
                return NONE;
            }
            int owner = ownerOf(name);
            if (owner < MOST_HOUSES) {
                failLate(NAME_FAULT, start);
                return NONE;
            }
            return owner - MOST_HOUSES;
        }

        private int ownerOf(long name) {
            for (int i = 0; i < named && i < names.length; i++) {
                if (names[i] == name) {
                    return owners[i];
                }
            }
            return NONE;
        }

        private int readInt(int least, int greatest) {
            int start = start();
            int value = intValue();
            if (take(INT) && !within(value, least, greatest)) {
                failLate(WRONG_FAULT, start);
            }
            return value;
        }

        private boolean takeFirst(int kind, int many, int most) {
            if (many < 0 || many >= most) {
                fail(ROOM_FAULT);
                return false;
            }
            return take(kind);
        }

        private boolean take(int kind) {
            if (fault == 0 && kind() != kind) {
                fail(SYNTAX_FAULT);
            }
            if (fault == 0 && at >= MOST_TOKENS) {
                fail(ROOM_FAULT);
            }
            if (fault != 0) {
                return false;
            }
            at++;
            return true;
        }

        private void fail(int number) {
            if (fault == 0) {
                fault = number;
                place = at >= 0 && at < tokens.many ? tokens.starts[at] : NONE;
            }
        }

        private void failLate(int number, int start) {
            if (lateFault == 0) {
                lateFault = number;
                latePlace = start;
            }
        }

        private int kind() {
            return at >= 0 && at < tokens.many ? tokens.kinds[at] : END;
        }

        private int start() {
            return at >= 0 && at < tokens.many ? tokens.starts[at] : NONE;
        }

        private long value() {
            return at >= 0 && at < tokens.many ? tokens.values[at] : 0;
        }

        private int intValue() {
            return kind() == INT ? (int) value() : 0;
        }
    }

    /** Which pieces of WOOD an inch by inch JACK takes. */
    private static final class Yard {
        private static final int WIDTH = HIGHEST + 1;
        private static final int CANNOT = 1000;

        // The fewest pieces for so many inches out of the WOODS from one on, a row for each.
        final int[] fewest = new int[(MOST_WOODS + 1) * WIDTH];
        final int[] used = new int[MOST_WOODS];
        int pieces = 0;

        /** Tells whether n inches can be, and then how many of each WOOD they take. */
        boolean choose(Town town, int[] wood, int n) {
            if (!within(n, 0, HIGHEST)) {
                return false;
            }
            for (int inches = 0; inches <= n; inches++) {
                fewest[town.woods * WIDTH + inches] = inches == 0 ? 0 : CANNOT;
            }
            for (int i = town.woods - 1; i >= 0; i--) {
                for (int inches = 0; inches <= n; inches++) {
                    fewest[i * WIDTH + inches] = fewestFrom(i, inches, town.length[i], wood[i]);
                }
            }
            pieces = fewest[n];
            if (pieces >= CANNOT) {
                return false;
            }
            int left = n;
            for (int i = 0; i < town.woods; i++) {
                used[i] = mostOf(i, left, town.length[i], wood[i]);
                left -= used[i] * town.length[i];
            }
            return true;
        }

        private int fewestFrom(int i, int inches, int length, int there) {
            int best = CANNOT;
            for (int take = 0; take <= there && take * length <= inches; take++) {
                best = Math.min(best, take + fewest[(i + 1) * WIDTH + inches - take * length]);
            }
            return best;
        }

        private int mostOf(int i, int inches, int length, int there) {
            int most = 0;
            for (int take = 0; take <= there && take * length <= inches; take++) {
                if (take + fewest[(i + 1) * WIDTH + inches - take * length] == fewest[i * WIDTH + inches]) {
                    most = take;
                }
            }
            return most;
        }
    }

    /** Judges WORKS on a copy of HEIGHTS and WOOD, does them, and keeps what is needed to undo them. */
    private static final class Works {
        final int[] height = new int[MOST_HOUSES];
        final int[] wood = new int[MOST_WOODS];
        final int[][] oldHeight = new int[MOST_LOTS][MOST_HOUSES];
        final int[][] oldWood = new int[MOST_LOTS][MOST_WOODS];
        int lots = 0;
        // Lots are kept in a ring, so that the oldest one goes without moving the others.
        int next = 0;
        int taken = 0;

        void dropLots() {
            lots = 0;
        }

        int verdict(Town town, State state, Yard yard) {
            System.arraycopy(state.height, 0, height, 0, MOST_HOUSES);
            System.arraycopy(state.wood, 0, wood, 0, MOST_WOODS);
            taken = 0;
            int tide = town.tideAt(state, NOON);
            int night = nightAfter(state, -1);
            for (int i = 0; i < MOST_WORKS && night != NONE; i++) {
                int verdict = nightVerdict(town, state, yard, night, tide);
                if (verdict != 0) {
                    return verdict;
                }
                night = nightAfter(state, night);
            }
            return 0;
        }

        private static int nightAfter(State state, int night) {
            int found = NONE;
            for (int w = 0; w < state.works; w++) {
                int other = state.night[w];
                if (other > night && (found == NONE || other < found)) {
                    found = other;
                }
            }
            return found;
        }

        private int nightVerdict(Town town, State state, Yard yard, int night, int tide) {
            int before = town.reachedBits(height, tide);
            int many = 0;
            int last = 0;
            for (int w = 0; w < state.works; w++) {
                if (state.night[w] == night) {
                    int reason = many >= town.crews ? 1
                        : workReason(town, yard, state.workHouse[w], state.inches[w]);
                    if (reason != 0) {
                        return 10 * w + reason;
                    }
                    many++;
                    last = w;
                }
            }
            boolean cutOff = (before & ~town.reachedBits(height, tide)) != 0;
            return cutOff ? 10 * last + 5 : 0;
        }

        private int workReason(Town town, Yard yard, int house, int inches) {
            if (Math.abs(inches) > town.jack) {
                return 2;
            }
            int to = height[house] + inches;
            if (!within(to, 0, HIGHEST)) {
                return 3;
            }
            if (inches < 0) {
                keepPiece(town, -inches);
            } else if (yard.choose(town, wood, inches)) {
                takePieces(town, yard);
            } else {
                return 4;
            }
            height[house] = to;
            return 0;
        }

        private void keepPiece(Town town, int length) {
            for (int i = 0; i < town.woods; i++) {
                if (town.length[i] == length) {
                    wood[i] = Math.min(99, wood[i] + 1);
                    return;
                }
            }
        }

        private void takePieces(Town town, Yard yard) {
            for (int i = 0; i < town.woods; i++) {
                wood[i] -= yard.used[i];
            }
            taken += yard.pieces;
        }

        /** What the last verdict was reached on becomes so. */
        void carryOut(State state) {
            if (next >= 0 && next < MOST_LOTS) {
                System.arraycopy(state.height, 0, oldHeight[next], 0, MOST_HOUSES);
                System.arraycopy(state.wood, 0, oldWood[next], 0, MOST_WOODS);
            }
            next = next + 1 < MOST_LOTS ? next + 1 : 0;
            lots = Math.min(MOST_LOTS, lots + 1);
            System.arraycopy(height, 0, state.height, 0, MOST_HOUSES);
            System.arraycopy(wood, 0, state.wood, 0, MOST_WOODS);
            state.works = 0;
        }

        boolean takeBack(State state) {
            if (lots == 0) {
                return false;
            }
            lots--;
            next = next > 0 ? next - 1 : MOST_LOTS - 1;
            if (next >= 0 && next < MOST_LOTS) {
                System.arraycopy(oldHeight[next], 0, state.height, 0, MOST_HOUSES);
                System.arraycopy(oldWood[next], 0, state.wood, 0, MOST_WOODS);
            }
            return true;
        }
    }

    /** The fewest NIGHTS, over all sets of UNTRUE HOUSES that can be at their DUE behind a night. */
    private static final class Nights {
        static final int MOST = 8;
        private static final int NEVER = 1000;

        final int[] untrue = new int[MOST];
        final int[] height = new int[MOST_HOUSES];
        final int[] due = new int[MOST];
        // How many nights are left when a set is at its DUE; a set never comes behind one that holds it.
        final int[] left = new int[1 << MOST];
        int many = 0;

        void search(Town town, State state, int bits) {
            many = 0;
            for (int h = 0; h < town.houses && many < MOST; h++) {
                if ((bits >> h & 1) != 0) {
                    untrue[many] = h;
                    due[many] = town.dueOf(state, h);
                    many++;
                }
            }
            int tide = town.tideAt(state, NOON);
            int door = town.reachedBits(state.height, tide);
            int all = (1 << many) - 1;
            for (int set = all; set >= 0; set--) {
                bring(state, set);
                boolean keeps = (door & ~town.reachedBits(height, tide)) == 0;
                left[set] = !keeps ? NEVER : set == all ? 0 : fewestFrom(set, all, town.crews);
            }
        }

        private void bring(State state, int set) {
            System.arraycopy(state.height, 0, height, 0, MOST_HOUSES);
            for (int i = 0; i < many; i++) {
                if ((set >> i & 1) != 0 && untrue[i] >= 0 && untrue[i] < MOST_HOUSES) {
                    height[untrue[i]] = due[i];
                }
            }
        }

        private int fewestFrom(int set, int all, int crews) {
            int best = NEVER;
            for (int to = set + 1; to <= all; to++) {
                boolean oneNight = (set & ~to) == 0 && Integer.bitCount(to & ~set) <= crews;
                if (oneNight) {
                    best = Math.min(best, left[to] + 1);
                }
            }
            return Math.min(NEVER, best);
        }

        int fewest() {
            return left[0] >= NEVER ? NOTHING : left[0];
        }

        /** Sets in order of their numbers have their HOUSES' bits in order, too. */
        int firstNight(int crews) {
            int best = 0;
            int size = MOST + 1;
            for (int set = 1; set < 1 << many && set < left.length; set++) {
                int houses = Integer.bitCount(set);
                if (houses <= crews && houses < size && left[set] + 1 == left[0]) {
                    best = set;
                    size = houses;
                }
            }
            return houseBits(best);
        }

        private int houseBits(int set) {
            int bits = 0;
            for (int i = 0; i < many; i++) {
                if ((set >> i & 1) != 0) {
                    bits |= 1 << untrue[i];
                }
            }
            return bits;
        }
    }

    /** CHAINS in one WIND. */
    private static final class Falls {
        private static final int UNKNOWN = -1;

        final int[] round = new int[MOST_HOUSES];
        final int[] beside = new int[MOST_HOUSES];
        // Whether a HOUSE has to fall when so many beside it have: asked of the RULES only once.
        final int[] verdict = new int[MOST_HOUSES * MOST_HOUSES];
        int lastRound = 0;

        void prepare(Town town) {
            for (int h = 0; h < MOST_HOUSES; h++) {
                beside[h] = town.neighbours(h);
            }
            for (int i = 0; i < verdict.length; i++) {
                verdict[i] = UNKNOWN;
            }
        }

        /** How many fall, if the post of this HOUSE rots; for one WIND after each prepare. */
        int startAt(Town town, State state, int house, int wind) {
            for (int h = 0; h < MOST_HOUSES; h++) {
                round[h] = h == house ? 0 : NOTHING;
            }
            int fallen = Town.bitOf(house);
            lastRound = 0;
            for (int r = 1; r <= MOST_HOUSES; r++) {
                int more = fallingBits(town, state, wind, fallen);
                if (more == 0) {
                    break;
                }
                enter(more, r);
                fallen |= more;
                lastRound = r;
            }
            return Integer.bitCount(fallen);
        }

        private int fallingBits(Town town, State state, int wind, int fallen) {
            int bits = 0;
            for (int h = 0; h < town.houses; h++) {
                // No HOUSE is beside itself: fewer than all of them are gone.
                int gone = Integer.bitCount(beside[h] & fallen);
                int i = h * MOST_HOUSES + gone;
                if ((fallen >> h & 1) == 0 && i < verdict.length) {
                    if (verdict[i] == UNKNOWN) {
                        verdict[i] = town.hasToFall(state, h, wind, gone) ? 1 : 0;
                    }
                    bits |= verdict[i] << h;
                }
            }
            return bits;
        }

        private void enter(int bits, int inRound) {
            for (int h = 0; h < MOST_HOUSES; h++) {
                if ((bits >> h & 1) != 0) {
                    round[h] = inRound;
                }
            }
        }
    }

    /** The cheapest POSTS for a row of YEARS. */
    private static final class Row {
        private static final int WIDTH = HIGHEST + 1;
        private static final int TOO_DEAR = 10000000;

        final int[] dues = new int[MOST_YEARS];
        // The least cost from a YEAR on, by the height that comes into it; a row for each YEAR.
        final int[] least = new int[(MOST_YEARS + 1) * WIDTH];
        int size = 0;
        int slack = 0;
        int up = 0;
        int down = 0;
        int change = 0;

        int add(int due) {
            if (size < 0 || size >= MOST_YEARS) {
                return NONE;
            }
            dues[size] = due;
            size++;
            return size;
        }

        void prices(int newSlack, int newUp, int newDown, int newChange) {
            slack = newSlack;
            up = newUp;
            down = newDown;
            change = newChange;
        }

        int fill(int h0) {
            for (int h = 0; h < WIDTH; h++) {
                least[size * WIDTH + h] = 0;
            }
            for (int i = size - 1; i >= 0; i--) {
                fillLevel(i);
                fillUp(i);
                fillDown(i);
            }
            return within(h0, 0, HIGHEST) ? least[h0] : NONE;
        }

        private boolean canBe(int i, int height) {
            return within(height, dues[i], Math.min(HIGHEST, dues[i] + slack));
        }

        private int behind(int i, int height) {
            return canBe(i, height) ? least[(i + 1) * WIDTH + height] : TOO_DEAR;
        }

        private void fillLevel(int i) {
            for (int h = 0; h < WIDTH; h++) {
                least[i * WIDTH + h] = behind(i, h);
            }
        }

        private void fillUp(int i) {
            int climb = TOO_DEAR;
            for (int h = HIGHEST - 1; h >= 0; h--) {
                climb = Math.min(climb, behind(i, h + 1)) + up;
                least[i * WIDTH + h] = Math.min(least[i * WIDTH + h], climb + change);
            }
        }

        private void fillDown(int i) {
            int sink = TOO_DEAR;
            for (int h = 1; h <= HIGHEST; h++) {
                sink = Math.min(sink, behind(i, h - 1)) + down;
                least[i * WIDTH + h] = Math.min(least[i * WIDTH + h], sink + change);
            }
        }

        /** The height in a YEAR, when each YEAR takes the least one that keeps the cost the least. */
        int heightIn(int h0, int year) {
            int height = h0;
            for (int i = 0; i <= year && i < size; i++) {
                height = nextHeight(i, height);
            }
            return height;
        }

        private int nextHeight(int i, int from) {
            for (int to = dues[i]; to <= HIGHEST; to++) {
                if (canBe(i, to) && stepCost(from, to) + behind(i, to) == least[i * WIDTH + from]) {
                    return to;
                }
            }
            return from;
        }

        private int stepCost(int from, int to) {
            if (to == from) {
                return 0;
            }
            return change + (to > from ? up * (to - from) : down * (from - to));
        }
    }
}
