import java.util.ArrayList;
import java.util.Arrays;
import java.util.HashMap;
import java.util.HashSet;
import java.util.LinkedHashMap;
import java.util.List;
import java.util.Map;
import java.util.Set;
import java.util.TreeSet;

/** The document once more, in the slowest and most literal way, to compare StiltTown with. */
final class NaiveTown {
    static final int NONE = -1;

    static final class Fault extends Exception {
        final int number;
        final int place;

        Fault(int number, int place) {
            super(null, null, false, false);
            this.number = number;
            this.place = place;
        }
    }

    static final class Tok {
        String text = "";
        String kind = "";
        int place;
    }

    static final class House {
        int x;
        int height;
        int load;
        int office = -1;
    }

    static final class Held {
        List<int[]> houses = new ArrayList<>();
        List<Integer> pieces = new ArrayList<>();
        int month;
        List<int[]> works = new ArrayList<>();
        List<int[]> logs = new ArrayList<>();
    }

    private static final Set<String> WORDS = new HashSet<>(Arrays.asList(
        "house office in stair ground quay wood crews jack tide due sway falls bad if or and not height rank load x hour month wind gone".split(" ")));
    private static final Set<String> VARS = new HashSet<>(Arrays.asList(
        "height rank load x hour month wind gone sway".split(" ")));

    private final List<Integer> tape = new ArrayList<>();
    private int lastPlace = NONE;

    private List<House> houses = new ArrayList<>();
    private List<Integer> ranks = new ArrayList<>();
    private List<int[]> stairs = new ArrayList<>();
    private List<Integer> quays = new ArrayList<>();
    private List<Integer> lengths = new ArrayList<>();
    private List<Integer> pieces = new ArrayList<>();
    private int crews = 2;
    private int jack = 10;
    private Object[] tideLaw;
    private Object[] dueLaw;
    private Object[] swayLaw;
    private List<Object[]> falls = new ArrayList<>();
    private List<Object[]> bad = new ArrayList<>();
    private int month;
    private List<int[]> works = new ArrayList<>();
    private List<int[]> logs = new ArrayList<>();
    private List<Integer> row = new ArrayList<>();
    private List<int[][]> lots = new ArrayList<>();
    private final Held[] slots = new Held[2];

    // ---- the text ----

    int feed(int a, int b, int c, int d, int e) {
        if (tape.size() + 20 > 2000) {
            return NONE;
        }
        for (int four : new int[] {a, b, c, d, e}) {
            tape.add(four >>> 24);
            tape.add(four >>> 16 & 255);
            tape.add(four >>> 8 & 255);
            tape.add(four & 255);
        }
        return tape.size();
    }

    int back(int n) {
        if (n < 0 || n > tape.size()) {
            return NONE;
        }
        for (int i = 0; i < n; i++) {
            tape.remove(tape.size() - 1);
        }
        return tape.size();
    }

    private List<Tok> toks;
    private int at;
    private int open;
    private Fault late;

    int read() {
        StringBuilder text = new StringBuilder();
        for (int b : tape) {
            text.append((char) b);
        }
        tape.clear();
        toks = tokenize(text.toString());
        at = 0;
        open = 0;
        late = null;
        NaiveTown fresh = new NaiveTown();
        try {
            fresh.parse(this);
            if (late != null) {
                throw late;
            }
        } catch (Fault fault) {
            lastPlace = fault.place;
            return fault.number;
        }
        lastPlace = NONE;
        houses = fresh.houses;
        ranks = fresh.ranks;
        stairs = fresh.stairs;
        quays = fresh.quays;
        lengths = fresh.lengths;
        pieces = fresh.pieces;
        crews = fresh.crews;
        jack = fresh.jack;
        tideLaw = fresh.tideLaw;
        dueLaw = fresh.dueLaw;
        swayLaw = fresh.swayLaw;
        falls = fresh.falls;
        bad = fresh.bad;
        month = 0;
        works = new ArrayList<>();
        logs = new ArrayList<>();
        row = new ArrayList<>();
        lots = new ArrayList<>();
        slots[0] = null;
        slots[1] = null;
        return 0;
    }

    private static List<Tok> tokenize(String text) {
        List<Tok> toks = new ArrayList<>();
        int i = 0;
        while (true) {
            while (i < text.length() && "\t\n\r ".indexOf(text.charAt(i)) >= 0) {
                i++;
            }
            Tok tok = new Tok();
            tok.place = i;
            toks.add(tok);
            if (i == text.length()) {
                tok.kind = "END";
                return toks;
            }
            String rest = text.substring(i);
            String letters = rest.replaceAll("(?s)[^a-z].*", "");
            String digits = rest.replaceAll("(?s)[^0-9].*", "");
            if (!letters.isEmpty()) {
                tok.text = letters;
                tok.kind = letters.length() > 8 ? "STRANGE" : WORDS.contains(letters) ? letters : "NAME";
            } else if (!digits.isEmpty()) {
                tok.text = digits;
                tok.kind = digits.length() > 4 ? "STRANGE" : "INT";
            } else {
                for (String sign : new String[] {"==", "!=", "<=", ";", "=", "+", "-", "*", "/", "<", "(", ")"}) {
                    if (tok.kind.isEmpty() && rest.startsWith(sign)) {
                        tok.text = sign;
                        tok.kind = sign;
                    }
                }
                if (tok.kind.isEmpty()) {
                    tok.text = rest.substring(0, 1);
                    tok.kind = "STRANGE";
                }
            }
            i += tok.text.length();
        }
    }

    private Tok peek() {
        return toks.get(at);
    }

    private Tok take(String kind) throws Fault {
        Tok tok = peek();
        if (!tok.kind.equals(kind)) {
            throw new Fault(1, tok.place);
        }
        if (at == 400) {
            throw new Fault(2, tok.place);
        }
        at++;
        return tok;
    }

    private void late(int number, int place) {
        if (late == null) {
            late = new Fault(number, place);
        }
    }

    private void room(List<?> list, int most) throws Fault {
        if (list.size() == most) {
            throw new Fault(2, peek().place);
        }
    }

    /** Fills this fresh town out of the TOKENS of another one. */
    private void parse(NaiveTown p) throws Fault {
        Map<String, Integer> houseNames = new LinkedHashMap<>();
        Map<String, Integer> officeNames = new LinkedHashMap<>();
        List<int[]> ins = new ArrayList<>();
        while (!p.peek().kind.equals("END")) {
            String kind = p.peek().kind;
            switch (kind) {
                case "house": {
                    p.room(houses, 16);
                    p.take(kind);
                    p.newName(houseNames, officeNames, houseNames);
                    House house = new House();
                    house.x = p.number(0, 40);
                    house.height = p.number(0, 99);
                    house.load = p.number(1, 9);
                    houses.add(house);
                    break;
                }
                case "office":
                    p.room(ranks, 12);
                    p.take(kind);
                    p.newName(houseNames, officeNames, officeNames);
                    ranks.add(p.number(0, 99));
                    break;
                case "in": {
                    p.room(ins, 12);
                    p.take(kind);
                    ins.add(new int[] {p.known(houseNames), p.known(officeNames)});
                    break;
                }
                case "stair": {
                    p.room(stairs, 12);
                    p.take(kind);
                    int from = p.known(houseNames);
                    int to = -1;
                    if (p.peek().kind.equals("ground")) {
                        p.take("ground");
                    } else {
                        int place = p.peek().place;
                        to = p.known(houseNames);
                        if (to >= 0 && to == from) {
                            p.late(5, place);
                        }
                    }
                    stairs.add(new int[] {from, to, p.number(0, 99)});
                    break;
                }
                case "quay":
                    p.room(quays, 4);
                    p.take(kind);
                    quays.add(p.known(houseNames));
                    break;
                case "wood":
                    p.room(lengths, 8);
                    p.take(kind);
                    lengths.add(p.number(1, 60));
                    pieces.add(p.number(0, 99));
                    break;
                case "crews":
                    p.take(kind);
                    crews = p.number(1, 9);
                    break;
                case "jack":
                    p.take(kind);
                    jack = p.number(1, 99);
                    break;
                case "tide":
                    p.take(kind);
                    p.take("=");
                    tideLaw = p.sum();
                    break;
                case "due":
                    p.take(kind);
                    p.take("=");
                    dueLaw = p.sum();
                    break;
                case "sway":
                    p.take(kind);
                    p.take("=");
                    swayLaw = p.sum();
                    break;
                case "falls":
                    p.room(falls, 4);
                    p.take(kind);
                    p.take("if");
                    falls.add(p.cond());
                    break;
                case "bad":
                    p.room(bad, 4);
                    p.take(kind);
                    p.take("if");
                    bad.add(p.cond());
                    break;
                default:
                    throw new Fault(1, p.peek().place);
            }
            p.take(";");
        }
        // A pair holds if it is the last one of its HOUSE and the last one of its OFFICE.
        for (int i = 0; i < ins.size(); i++) {
            boolean last = true;
            for (int j = i + 1; j < ins.size(); j++) {
                last &= ins.get(j)[0] != ins.get(i)[0] && ins.get(j)[1] != ins.get(i)[1];
            }
            if (last && ins.get(i)[0] >= 0 && ins.get(i)[1] >= 0) {
                houses.get(ins.get(i)[0]).office = ins.get(i)[1];
            }
        }
    }

    private void newName(Map<String, Integer> one, Map<String, Integer> two, Map<String, Integer> into) throws Fault {
        Tok tok = take("NAME");
        if (one.containsKey(tok.text) || two.containsKey(tok.text)) {
            late(3, tok.place);
        } else {
            into.put(tok.text, into.size());
        }
    }

    private int known(Map<String, Integer> names) throws Fault {
        Tok tok = take("NAME");
        if (!names.containsKey(tok.text)) {
            late(4, tok.place);
            return -1;
        }
        return names.get(tok.text);
    }

    private int number(int least, int greatest) throws Fault {
        Tok tok = take("INT");
        int value = Integer.parseInt(tok.text);
        if (value < least || value > greatest) {
            late(5, tok.place);
        }
        return value;
    }

    private Object[] cond() throws Fault {
        Object[] left = all();
        while (peek().kind.equals("or")) {
            take("or");
            left = new Object[] {"or", left, all()};
        }
        return left;
    }

    private Object[] all() throws Fault {
        Object[] left = lit();
        while (peek().kind.equals("and")) {
            take("and");
            left = new Object[] {"and", left, lit()};
        }
        return left;
    }

    private Object[] lit() throws Fault {
        if (peek().kind.equals("not")) {
            take("not");
            return new Object[] {"not", lit()};
        }
        Object[] left = sum();
        String kind = peek().kind;
        if (!Arrays.asList("==", "!=", "<", "<=").contains(kind)) {
            throw new Fault(1, peek().place);
        }
        take(kind);
        return new Object[] {kind, left, sum()};
    }

    private Object[] sum() throws Fault {
        Object[] left = part();
        while (peek().kind.equals("+") || peek().kind.equals("-")) {
            String kind = take(peek().kind).kind;
            left = new Object[] {kind, left, part()};
        }
        return left;
    }

    private Object[] part() throws Fault {
        Object[] left = unit();
        while (peek().kind.equals("*") || peek().kind.equals("/")) {
            String kind = take(peek().kind).kind;
            left = new Object[] {kind, left, unit()};
        }
        return left;
    }

    private Object[] unit() throws Fault {
        String kind = peek().kind;
        if (kind.equals("INT")) {
            return new Object[] {"INT", Integer.parseInt(take("INT").text)};
        }
        if (VARS.contains(kind)) {
            return new Object[] {"VAR", take(kind).kind};
        }
        if (!kind.equals("(")) {
            throw new Fault(1, peek().place);
        }
        if (open == 6) {
            throw new Fault(2, peek().place);
        }
        take("(");
        open++;
        Object[] inside = sum();
        take(")");
        open--;
        return inside;
    }

    int place() {
        return lastPlace;
    }

    // ---- laws ----

    private static final class ByZero extends Exception {
        ByZero() {
            super(null, null, false, false);
        }
    }

    private static int reckon(Object[] e, Map<String, Integer> vars) throws ByZero {
        if (e[0].equals("INT")) {
            return (Integer) e[1];
        }
        if (e[0].equals("VAR")) {
            return vars.getOrDefault(e[1], 0);
        }
        int a = reckon((Object[]) e[1], vars);
        int b = reckon((Object[]) e[2], vars);
        switch ((String) e[0]) {
            case "+": return a + b;
            case "-": return a - b;
            case "*": return a * b;
            default:
                if (b == 0) {
                    throw new ByZero();
                }
                return a / b;
        }
    }

    private static int law(Object[] e, Map<String, Integer> vars) {
        try {
            return Math.max(0, Math.min(99, e == null ? 0 : reckon(e, vars)));
        } catch (ByZero zero) {
            return 0;
        }
    }

    private static boolean holds(Object[] c, Map<String, Integer> vars) {
        switch ((String) c[0]) {
            case "or": return holds((Object[]) c[1], vars) || holds((Object[]) c[2], vars);
            case "and": return holds((Object[]) c[1], vars) && holds((Object[]) c[2], vars);
            case "not": return !holds((Object[]) c[1], vars);
            default: break;
        }
        try {
            int a = reckon((Object[]) c[1], vars);
            int b = reckon((Object[]) c[2], vars);
            switch ((String) c[0]) {
                case "==": return a == b;
                case "!=": return a != b;
                case "<": return a < b;
                default: return a <= b;
            }
        } catch (ByZero zero) {
            return false;
        }
    }

    private int rank(int h) {
        int office = houses.get(h).office;
        return office < 0 ? 0 : ranks.get(office);
    }

    private int due(int h) {
        if (dueLaw == null) {
            return rank(h);
        }
        Map<String, Integer> vars = new HashMap<>();
        vars.put("rank", rank(h));
        vars.put("load", houses.get(h).load);
        vars.put("x", houses.get(h).x);
        return law(dueLaw, vars);
    }

    private Map<String, Integer> houseVars(int h) {
        Map<String, Integer> vars = new HashMap<>();
        vars.put("height", houses.get(h).height);
        vars.put("rank", rank(h));
        vars.put("load", houses.get(h).load);
        vars.put("x", houses.get(h).x);
        vars.put("month", month);
        return vars;
    }

    private int swayOf(int h, int wind) {
        Map<String, Integer> vars = houseVars(h);
        vars.put("wind", wind);
        return law(swayLaw, vars);
    }

    private boolean isHouse(int h) {
        return 0 <= h && h < houses.size();
    }

    private boolean isOffice(int o) {
        return 0 <= o && o < ranks.size();
    }

    int house(int h, int what) {
        if (!isHouse(h) || what < 0 || what > 5) {
            return NONE;
        }
        House house = houses.get(h);
        int office = house.office < 0 ? -2 : house.office;
        return new int[] {house.x, house.height, house.load, office, rank(h), due(h)}[what];
    }

    boolean give(int h, int o) {
        if (!isHouse(h) || o != -1 && !isOffice(o)) {
            return false;
        }
        for (House other : houses) {
            if (other.office == o) {
                other.office = -1;
            }
        }
        houses.get(h).office = o;
        return true;
    }

    int holder(int o) {
        if (!isOffice(o)) {
            return NONE;
        }
        for (int h = 0; h < houses.size(); h++) {
            if (houses.get(h).office == o) {
                return h;
            }
        }
        return -2;
    }

    int months(int n) {
        if (n < 0 || n > 240) {
            return NONE;
        }
        for (int i = 0; i < n; i++) {
            month = month == 11 ? 0 : month + 1;
        }
        return month;
    }

    // ---- the tide ----

    int tide(int hour) {
        if (hour < 0 || hour > 23) {
            return NONE;
        }
        Map<String, Integer> vars = new HashMap<>();
        vars.put("hour", hour);
        vars.put("month", month);
        return law(tideLaw, vars);
    }

    private int[] heights() {
        int[] heights = new int[houses.size()];
        for (int h = 0; h < heights.length; h++) {
            heights[h] = houses.get(h).height;
        }
        return heights;
    }

    private static int bits(Set<Integer> set) {
        int bits = 0;
        for (int h : set) {
            bits += 1 << h;
        }
        return bits;
    }

    int wet(int hour) {
        if (hour < 0 || hour > 23) {
            return NONE;
        }
        Set<Integer> wet = new TreeSet<>();
        for (int h = 0; h < houses.size(); h++) {
            if (houses.get(h).height < tide(hour)) {
                wet.add(h);
            }
        }
        return bits(wet);
    }

    private boolean meets(int[] stair, int[] heights) {
        int other = stair[1] < 0 ? 0 : heights[stair[1]];
        return Math.abs(heights[stair[0]] - other) <= stair[2];
    }

    /** From the quays and the ground outwards, along a queue. */
    private Set<Integer> reach(int[] heights, int tide, int noStair, int noHouse) {
        Set<Integer> seen = new TreeSet<>();
        List<Integer> queue = new ArrayList<>(quays);
        for (int s = 0; s < stairs.size(); s++) {
            int[] stair = stairs.get(s);
            if (s != noStair && stair[1] < 0 && tide == 0 && meets(stair, heights)) {
                queue.add(stair[0]);
            }
        }
        while (!queue.isEmpty()) {
            int h = queue.remove(0);
            if (h == noHouse || heights[h] < tide || !seen.add(h)) {
                continue;
            }
            for (int s = 0; s < stairs.size(); s++) {
                int[] stair = stairs.get(s);
                if (s != noStair && stair[1] >= 0 && meets(stair, heights)) {
                    if (stair[0] == h) {
                        queue.add(stair[1]);
                    }
                    if (stair[1] == h) {
                        queue.add(stair[0]);
                    }
                }
            }
        }
        return seen;
    }

    int reached(int hour) {
        if (hour < 0 || hour > 23) {
            return NONE;
        }
        return bits(reach(heights(), tide(hour), -1, -1));
    }

    int hours(int h) {
        if (!isHouse(h)) {
            return NONE;
        }
        int many = 0;
        for (int hour = 0; hour < 24; hour++) {
            if (reach(heights(), tide(hour), -1, -1).contains(h)) {
                many++;
            }
        }
        return many;
    }

    int meets(int s) {
        if (s < 0 || s >= stairs.size()) {
            return NONE;
        }
        return meets(stairs.get(s), heights()) ? 1 : 0;
    }

    int cut(int which, boolean stair, int hour) {
        if (which < 0 || which >= (stair ? stairs.size() : houses.size()) || hour < 0 || hour > 23) {
            return NONE;
        }
        Set<Integer> all = reach(heights(), tide(hour), -1, -1);
        all.removeAll(reach(heights(), tide(hour), stair ? which : -1, stair ? -1 : which));
        if (!stair) {
            all.remove(which);
        }
        return all.size();
    }

    int worst(boolean stair, int hour) {
        if (hour < 0 || hour > 23) {
            return NONE;
        }
        int many = stair ? stairs.size() : houses.size();
        int worst = -2;
        for (int i = many - 1; i >= 0; i--) {
            if (worst == -2 || cut(i, stair, hour) >= cut(worst, stair, hour)) {
                worst = i;
            }
        }
        return worst;
    }

    int law(int what) {
        Set<Integer> untrue = new TreeSet<>();
        Set<Integer> isBad = new TreeSet<>();
        int turned = 0;
        for (int a = 0; a < houses.size(); a++) {
            if (houses.get(a).height != due(a)) {
                untrue.add(a);
            }
            Map<String, Integer> vars = houseVars(a);
            vars.put("sway", swayOf(a, 0));
            for (Object[] rule : bad) {
                if (holds(rule, vars)) {
                    isBad.add(a);
                }
            }
            for (int b = 0; b < a; b++) {
                int byRank = Integer.compare(rank(a), rank(b));
                int byHeight = Integer.compare(houses.get(a).height, houses.get(b).height);
                if (byRank != 0 && byRank != byHeight) {
                    turned++;
                }
            }
        }
        switch (what) {
            case 0: return untrue.size();
            case 1: return turned;
            case 2: return isBad.size();
            case 3: return bits(untrue);
            case 4: return bits(isBad);
            default: return NONE;
        }
    }

    // ---- works ----

    int wood(int i) {
        return i < 0 || i >= pieces.size() ? NONE : pieces.get(i);
    }

    /** Of two lists of pieces the better one: fewer in all, then more of the first one, and so on. */
    private static int[] better(int[] a, int[] b) {
        if (a == null || b == null) {
            return a == null ? b : a;
        }
        int bySum = Integer.compare(Arrays.stream(a).sum(), Arrays.stream(b).sum());
        if (bySum != 0) {
            return bySum < 0 ? a : b;
        }
        return Arrays.compare(a, b) >= 0 ? a : b;
    }

    private int[] choose(List<Integer> there, int n) {
        int[][] best = new int[n + 1][];
        best[0] = new int[lengths.size()];
        for (int i = 0; i < lengths.size(); i++) {
            int[][] more = new int[n + 1][];
            for (int inches = 0; inches <= n; inches++) {
                for (int k = 0; k <= there.get(i) && k * lengths.get(i) <= inches; k++) {
                    int[] ahead = best[inches - k * lengths.get(i)];
                    if (ahead != null) {
                        int[] with = ahead.clone();
                        with[i] = k;
                        more[inches] = better(more[inches], with);
                    }
                }
            }
            best = more;
        }
        return best[n];
    }

    int jack(int n, int what) {
        if (n < 1 || n > 99 || what != 0 && (what < 10 || what - 10 >= lengths.size())) {
            return NONE;
        }
        int[] chosen = choose(pieces, n);
        if (chosen == null) {
            return -2;
        }
        return what == 0 ? Arrays.stream(chosen).sum() : chosen[what - 10];
    }

    int work(int night, int h, int inches) {
        boolean wrong = night < 0 || night > 99 || !isHouse(h) || inches == 0 || inches < -99 || inches > 99;
        if (works.size() == 40 || wrong) {
            return NONE;
        }
        works.add(new int[] {night, h, inches});
        return works.size() - 1;
    }

    int forget() {
        int many = works.size();
        works.clear();
        return many;
    }

    private int[] laterHeights;
    private List<Integer> laterPieces;
    private int taken;

    int judge() {
        laterHeights = heights();
        laterPieces = new ArrayList<>(pieces);
        taken = 0;
        int tide = tide(12);
        for (int night = 0; night <= 99; night++) {
            Set<Integer> before = reach(laterHeights, tide, -1, -1);
            int many = 0;
            int last = -1;
            for (int w = 0; w < works.size(); w++) {
                if (works.get(w)[0] != night) {
                    continue;
                }
                int reason = many == crews ? 1 : oneWork(works.get(w)[1], works.get(w)[2]);
                if (reason != 0) {
                    return 10 * w + reason;
                }
                many++;
                last = w;
            }
            if (last >= 0 && !reach(laterHeights, tide, -1, -1).containsAll(before)) {
                return 10 * last + 5;
            }
        }
        return 0;
    }

    private int oneWork(int h, int inches) {
        if (Math.abs(inches) > jack) {
            return 2;
        }
        if (laterHeights[h] + inches < 0 || laterHeights[h] + inches > 99) {
            return 3;
        }
        if (inches > 0) {
            int[] chosen = choose(laterPieces, inches);
            if (chosen == null) {
                return 4;
            }
            for (int i = 0; i < chosen.length; i++) {
                laterPieces.set(i, laterPieces.get(i) - chosen[i]);
                taken += chosen[i];
            }
        } else {
            int i = lengths.indexOf(-inches);
            if (i >= 0 && laterPieces.get(i) < 99) {
                laterPieces.set(i, laterPieces.get(i) + 1);
            }
        }
        laterHeights[h] += inches;
        return 0;
    }

    int done() {
        if (works.isEmpty()) {
            return 0;
        }
        if (judge() != 0) {
            return -2;
        }
        lots.add(new int[][] {heights(), pieces.stream().mapToInt(i -> i).toArray()});
        if (lots.size() > 20) {
            lots.remove(0);
        }
        for (int h = 0; h < houses.size(); h++) {
            houses.get(h).height = laterHeights[h];
        }
        pieces = laterPieces;
        works.clear();
        return taken;
    }

    boolean undo() {
        if (lots.isEmpty()) {
            return false;
        }
        int[][] lot = lots.remove(lots.size() - 1);
        for (int h = 0; h < houses.size(); h++) {
            houses.get(h).height = lot[0][h];
        }
        pieces = new ArrayList<>();
        for (int many : lot[1]) {
            pieces.add(many);
        }
        return true;
    }

    /** Breadth first over sets of HOUSES that are at their DUE; every order of a first night is tried. */
    int nights(int what) {
        if (what < 0 || what > 2) {
            return NONE;
        }
        int untrue = law(3);
        int many = Integer.bitCount(untrue);
        if (what == 2) {
            return (int) Math.ceil(many / (double) crews);
        }
        if (many > 8) {
            return -2;
        }
        if (many == 0) {
            return 0;
        }
        int best = Integer.MAX_VALUE;
        int first = 0;
        Map<Integer, Integer> known = new HashMap<>();
        for (int night = untrue; night > 0; night = night - 1 & untrue) {
            if (Integer.bitCount(night) > crews || !keeps(night)) {
                continue;
            }
            int far = farFrom(night, untrue, known);
            if (far < 0) {
                continue;
            }
            boolean smaller = Integer.bitCount(night) < Integer.bitCount(first)
                || Integer.bitCount(night) == Integer.bitCount(first) && night < first;
            if (far + 1 < best || far + 1 == best && smaller) {
                best = far + 1;
                first = night;
            }
        }
        if (best == Integer.MAX_VALUE) {
            return -2;
        }
        return what == 0 ? best : first;
    }

    private boolean keeps(int set) {
        int[] heights = heights();
        Set<Integer> ahead = reach(heights, tide(12), -1, -1);
        for (int h = 0; h < heights.length; h++) {
            if ((set >> h & 1) != 0) {
                heights[h] = due(h);
            }
        }
        return reach(heights, tide(12), -1, -1).containsAll(ahead);
    }

    private int farFrom(int set, int untrue, Map<Integer, Integer> known) {
        if (set == untrue) {
            return 0;
        }
        if (known.containsKey(set)) {
            return known.get(set);
        }
        int best = -1;
        int rest = untrue & ~set;
        for (int night = rest; night > 0; night = night - 1 & rest) {
            if (Integer.bitCount(night) <= crews && keeps(set | night)) {
                int far = farFrom(set | night, untrue, known);
                if (far >= 0 && (best < 0 || far + 1 < best)) {
                    best = far + 1;
                }
            }
        }
        known.put(set, best);
        return best;
    }

    // ---- looks, sway, chains ----

    int looks(int h, int other) {
        if (!isHouse(h) || !isHouse(other) || h == other) {
            return NONE;
        }
        House a = houses.get(h);
        House b = houses.get(other);
        if (a.height <= b.height || a.x == b.x) {
            return 0;
        }
        for (House c : houses) {
            if (c.x > Math.min(a.x, b.x) && c.x < Math.max(a.x, b.x)) {
                double line = a.height + (double) (b.height - a.height) * (c.x - a.x) / (b.x - a.x);
                // Lines and heights that are not the same are more than 1/40 apart.
                if (c.height > line - 0.001) {
                    return 0;
                }
            }
        }
        return 1;
    }

    int light(int h) {
        if (!isHouse(h)) {
            return NONE;
        }
        House a = houses.get(h);
        boolean west = true;
        boolean east = true;
        for (House b : houses) {
            if (b.height - a.height >= Math.abs(b.x - a.x)) {
                west &= b.x >= a.x;
                east &= b.x <= a.x;
            }
        }
        return (west ? 1 : 0) + (east ? 2 : 0);
    }

    int sway(int h, int wind) {
        return !isHouse(h) || wind < 0 || wind > 99 ? NONE : swayOf(h, wind);
    }

    private int[] rounds(int from, int wind) {
        int[] rounds = new int[houses.size()];
        Arrays.fill(rounds, -2);
        rounds[from] = 0;
        for (int round = 1; ; round++) {
            Set<Integer> falling = new TreeSet<>();
            for (int h = 0; h < rounds.length; h++) {
                if (rounds[h] != -2) {
                    continue;
                }
                Set<Integer> gone = new TreeSet<>();
                for (int[] stair : stairs) {
                    int other = stair[0] == h ? stair[1] : stair[1] == h ? stair[0] : -1;
                    if (other >= 0 && rounds[other] != -2) {
                        gone.add(other);
                    }
                }
                Map<String, Integer> vars = houseVars(h);
                vars.put("wind", wind);
                vars.put("sway", swayOf(h, wind));
                vars.put("gone", gone.size());
                for (Object[] rule : falls) {
                    if (holds(rule, vars)) {
                        falling.add(h);
                    }
                }
            }
            if (falling.isEmpty()) {
                return rounds;
            }
            for (int h : falling) {
                rounds[h] = round;
            }
        }
    }

    int chain(int h, int wind, int what) {
        if (!isHouse(h) || wind < 0 || wind > 99 || what != 0 && what != 1 && (what < 10 || !isHouse(what - 10))) {
            return NONE;
        }
        int[] rounds = rounds(h, wind);
        if (what >= 10) {
            return rounds[what - 10];
        }
        return (int) (what == 0 ? Arrays.stream(rounds).filter(r -> r >= 0).count() : Arrays.stream(rounds).max().getAsInt());
    }

    int dread(int wind) {
        if (wind < 0 || wind > 99) {
            return NONE;
        }
        int best = -2;
        for (int h = houses.size() - 1; h >= 0; h--) {
            if (best == -2 || chain(h, wind, 0) >= chain(best, wind, 0)) {
                best = h;
            }
        }
        return best;
    }

    // ---- posts ----

    int year(int due) {
        if (row.size() == 12 || due < 0 || due > 99) {
            return NONE;
        }
        row.add(due);
        return row.size();
    }

    int clear() {
        int many = row.size();
        row.clear();
        return many;
    }

    /** The cheapest way from a year on: its cost, then its heights. */
    private List<Integer> cheapest(int year, int from, int[] prices, Map<Integer, List<Integer>> known) {
        if (year == row.size()) {
            return List.of(0);
        }
        int key = year * 100 + from;
        if (known.containsKey(key)) {
            return known.get(key);
        }
        List<Integer> best = null;
        for (int to = Math.min(99, row.get(year) + prices[0]); to >= row.get(year); to--) {
            List<Integer> rest = cheapest(year + 1, to, prices, known);
            int cost = rest.get(0) + (to == from ? 0 : prices[3] + (to > from ? (to - from) * prices[1] : (from - to) * prices[2]));
            if (best == null || cost <= best.get(0)) {
                best = new ArrayList<>();
                best.add(cost);
                best.add(to);
                best.addAll(rest.subList(1, rest.size()));
            }
        }
        known.put(key, best);
        return best;
    }

    int posts(int h0, int slack, int u, int s, int c) {
        for (int i : new int[] {h0, slack, u, s, c}) {
            if (i < 0 || i > 99) {
                return NONE;
            }
        }
        return cheapest(0, h0, new int[] {slack, u, s, c}, new HashMap<>()).get(0);
    }

    int postAt(int h0, int slack, int u, int s, int c, int i) {
        if (posts(h0, slack, u, s, c) == NONE || i < 0 || i >= row.size()) {
            return NONE;
        }
        return cheapest(0, h0, new int[] {slack, u, s, c}, new HashMap<>()).get(i + 1);
    }

    // ---- logs ----

    private int log(int... log) {
        if (logs.size() == 60) {
            return NONE;
        }
        logs.add(log);
        return logs.size() - 1;
    }

    int vote(int h, int o, int other) {
        return isHouse(h) && isOffice(o) && isHouse(other) ? log(0, h, o, other) : NONE;
    }

    int mark(int h, int year, int height) {
        boolean right = isHouse(h) && year >= 0 && year <= 99 && height >= 0 && height <= 99;
        return right ? log(1, h, year, height) : NONE;
    }

    int annul(int log) {
        return log >= 0 && log < logs.size() && logs.get(log)[0] != 2 ? log(2, log) : NONE;
    }

    private List<int[]> known(int n) {
        Set<Integer> struck = new TreeSet<>();
        for (int[] log : logs.subList(0, n)) {
            if (log[0] == 2) {
                struck.add(log[1]);
            }
        }
        List<int[]> known = new ArrayList<>();
        for (int i = 0; i < n; i++) {
            if (!struck.contains(i)) {
                known.add(logs.get(i));
            }
        }
        return known;
    }

    int votes(int o, int h, int n) {
        if (!isOffice(o) || !isHouse(h) || n < 0 || n > logs.size()) {
            return NONE;
        }
        Map<Integer, Integer> choices = new HashMap<>();
        for (int[] log : known(n)) {
            if (log[0] == 0 && log[2] == o) {
                choices.put(log[1], log[3]);
            }
        }
        return (int) choices.values().stream().filter(choice -> choice == h).count();
    }

    int winner(int o, int n) {
        if (!isOffice(o) || n < 0 || n > logs.size()) {
            return NONE;
        }
        List<Integer> order = new ArrayList<>();
        for (int h = 0; h < houses.size(); h++) {
            if (votes(o, h, n) > 0) {
                order.add(h);
            }
        }
        order.sort((a, b) -> {
            int byVotes = Integer.compare(votes(o, b, n), votes(o, a, n));
            int byHeight = Integer.compare(houses.get(b).height, houses.get(a).height);
            return byVotes != 0 ? byVotes : byHeight != 0 ? byHeight : Integer.compare(a, b);
        });
        return order.isEmpty() ? -2 : order.get(0);
    }

    /** Which heights there can be in each YEAR, walked from the first YEAR to the last one and back again. */
    int ends(int h, int year, int r, int n) {
        if (!isHouse(h) || year < 0 || year > 99 || r < 0 || r > 99 || n < 0 || n > logs.size()) {
            return NONE;
        }
        boolean[][] can = new boolean[100][100];
        for (boolean[] heights : can) {
            Arrays.fill(heights, true);
        }
        for (int[] log : known(n)) {
            if (log[0] == 1 && log[1] == h) {
                for (int height = 0; height < 100; height++) {
                    can[log[2]][height] &= height == log[3];
                }
            }
        }
        for (int y = 1; y < 100; y++) {
            narrow(can[y], can[y - 1], r);
        }
        for (int y = 98; y >= 0; y--) {
            narrow(can[y], can[y + 1], r);
        }
        int least = 0;
        while (least < 100 && !can[year][least]) {
            least++;
        }
        int greatest = 99;
        while (greatest >= 0 && !can[year][greatest]) {
            greatest--;
        }
        return least == 100 ? -2 : 100 * least + greatest;
    }

    private static void narrow(boolean[] can, boolean[] beside, int r) {
        for (int height = 0; height < 100; height++) {
            boolean comes = false;
            for (int other = Math.max(0, height - r); other <= Math.min(99, height + r); other++) {
                comes |= beside[other];
            }
            can[height] &= comes;
        }
    }

    int years(int seed, int n) {
        if (n < 1 || n > 40) {
            return NONE;
        }
        lots.clear();
        int inches = 0;
        for (int i = 0; i < n; i++) {
            months(12);
            if (houses.isEmpty() || ranks.isEmpty()) {
                continue;
            }
            give(lot(houses.size(), seed, 10 * i), -1);
            int office = lot(ranks.size(), seed, 10 * i + 1);
            int house = lot(houses.size(), seed, 10 * i + 2);
            if (holder(office) == -2) {
                give(house, office);
            }
            int went = 0;
            for (int h = 0; h < houses.size(); h++) {
                int far = Math.abs(due(h) - houses.get(h).height);
                if (far > 0 && went < crews) {
                    went++;
                    int by = Math.min(far, jack);
                    inches += by;
                    houses.get(h).height += due(h) > houses.get(h).height ? by : -by;
                }
            }
        }
        return inches;
    }

    static int lot(int n, int seed, int which) {
        long mask = 0xffffffffL;
        long h = seed & mask;
        for (long it : new long[] {18, which}) {
            h = ((h ^ it) * 1103515245L + 12345L) & mask;
            h = h ^ h / 32768;
        }
        return (int) (h / 2 % n);
    }

    boolean hold(int slot) {
        if (slot < 0 || slot > 1) {
            return false;
        }
        Held held = new Held();
        for (House house : houses) {
            held.houses.add(new int[] {house.height, house.office});
        }
        held.pieces.addAll(pieces);
        held.month = month;
        held.works.addAll(works);
        held.logs.addAll(logs);
        slots[slot] = held;
        return true;
    }

    boolean restore(int slot) {
        if (slot < 0 || slot > 1 || slots[slot] == null) {
            return false;
        }
        Held held = slots[slot];
        for (int h = 0; h < houses.size(); h++) {
            houses.get(h).height = held.houses.get(h)[0];
            houses.get(h).office = held.houses.get(h)[1];
        }
        pieces = new ArrayList<>(held.pieces);
        month = held.month;
        works = new ArrayList<>(held.works);
        logs = new ArrayList<>(held.logs);
        lots.clear();
        return true;
    }

    int count(int what) {
        int[] counts = {
            houses.size(), ranks.size(), stairs.size(), quays.size(), lengths.size(), crews, jack, works.size(),
            logs.size(), month, lots.size(), tape.size(), (slots[0] == null ? 0 : 1) + (slots[1] == null ? 0 : 1),
            row.size(), falls.size(), bad.size()};
        return what < 0 || what >= counts.length ? NONE : counts[what];
    }
}
