import java.util.Arrays;
import java.util.Random;

/** Runs of calls by chance (always the same ones) on StiltTown and on NaiveTown: each answer has to be alike. */
final class OracleTest {
    private static final String[] METHODS = {
        "house", "give", "holder", "months", "tide", "wet", "reached", "hours", "meets", "cut", "worst", "law", "wood",
        "jack", "work", "work", "work", "forget", "judge", "done", "done", "undo", "nights", "looks", "light", "sway", "chain",
        "dread", "year", "year", "clear", "posts", "postAt", "vote", "vote", "mark", "mark", "annul", "votes", "winner", "ends",
        "years", "hold", "restore", "count", "place", "feed", "back", "read"};

    private static final int MOST_CALLS = 512;

    private final Random random;
    private final Texts texts;
    private StiltTown town;
    private NaiveTown naive;
    // Calls that the town has had; what is answered beyond 512 is free.
    private int used = 0;
    private final StringBuilder told = new StringBuilder();
    private static int calls = 0;
    private static final java.util.Map<String, java.util.Map<Long, Integer>> SEEN = new java.util.TreeMap<>();

    private OracleTest(long seed) {
        random = new Random(seed);
        texts = new Texts(random);
    }

    public static void main(String[] args) {
        int runs = args.length > 0 ? Integer.parseInt(args[0]) : 1500;
        long first = args.length > 1 ? Long.parseLong(args[1]) : 1;
        for (long seed = first; seed < first + runs; seed++) {
            OracleTest test = new OracleTest(seed);
            String wrong = seed % 3 == 0 ? test.readMany() : test.play();
            if (wrong != null) {
                System.out.println("run " + seed + ": " + wrong + "\n" + test.told);
                System.exit(1);
            }
        }
        if (args.length > 2) {
            SEEN.forEach((name, answers) -> System.out.println(name + " " + answers));
        }
        System.out.println(calls + " calls are answered alike");
    }

    private int upTo(int most) {
        return random.nextInt(most + 1);
    }

    /** Mostly a right number up to most, now and then one at the edge or far beyond. */
    private int some(int most) {
        switch (upTo(60)) {
            case 0: return -1;
            case 1: return most + 1;
            case 2: return Integer.MIN_VALUE;
            case 3: return Integer.MAX_VALUE;
            case 4: return -2;
            case 5: return most;
            case 6: return random.nextInt();
            default: return most < 0 ? 0 : upTo(most);
        }
    }

    private void anew() {
        town = new StiltTown();
        naive = new NaiveTown();
        used = 0;
        told.setLength(0);
    }

    private boolean hasRoomFor(String text) {
        return used + Math.min(100, (text.length() + 19) / 20) + 5 <= MOST_CALLS;
    }

    private String readMany() {
        anew();
        for (int i = 0; i < 12; i++) {
            String text = i % 4 == 0 ? texts.full() : i % 4 == 1 ? texts.pieces() : texts.wrong(30);
            // A text takes 105 calls at most, the counts 16.
            if (used + 121 > MOST_CALLS) {
                anew();
            }
            String wrong = readBoth(text);
            for (int what = 0; wrong == null && what < 16; what++) {
                wrong = compare("count", new int[] {what}, town.count(what), naive.count(what));
            }
            if (wrong != null) {
                return wrong;
            }
        }
        return null;
    }

    private String readBoth(String wanted) {
        String text = wanted.length() > 2000 ? wanted.substring(0, 2000) : wanted;
        told.append("read ").append(text).append('\n');
        String wrong = compare("back", new int[0], town.back(town.count(11)), naive.back(naive.count(11)));
        for (int from = 0; wrong == null && from < text.length(); from += 20) {
            int[] f = Tape.five(text, from);
            wrong = compare("feed", f, town.feed(f[0], f[1], f[2], f[3], f[4]), naive.feed(f[0], f[1], f[2], f[3], f[4]));
        }
        if (wrong != null) {
            return wrong;
        }
        int over = Tape.over(text.length());
        town.back(over);
        naive.back(over);
        used += 2;
        wrong = compare("read", new int[0], town.read(), naive.read());
        return wrong != null ? wrong : compare("place", new int[0], town.place(), naive.place());
    }

    private String play() {
        anew();
        String wrong = readRight();
        for (int i = 0; wrong == null && i < 450 && used + 2 <= MOST_CALLS; i++) {
            String method = METHODS[upTo(METHODS.length - 1)];
            boolean reads = method.equals("read");
            if (reads && upTo(5) == 0) {
                wrong = upTo(5) > 0 ? readRight() : readIfRoom(texts.wrong(30));
            } else if (!reads) {
                wrong = one(method);
            }
        }
        return wrong;
    }

    private String readIfRoom(String text) {
        return hasRoomFor(text) ? readBoth(text) : null;
    }

    /** Texts by chance may have too many TOKENS; then the next one is tried. */
    private String readRight() {
        String wrong = null;
        for (int i = 0; wrong == null && i < 8 && (i == 0 || naive.place() != NaiveTown.NONE); i++) {
            wrong = readIfRoom(texts.right(1 + upTo(98)));
        }
        return wrong;
    }

    private String compare(String name, int[] args, long got, long due) {
        calls++;
        used++;
        SEEN.computeIfAbsent(name, key -> new java.util.TreeMap<>()).merge(Math.max(-3, Math.min(due, 3)), 1, Integer::sum);
        return got == due ? null : name + Arrays.toString(args) + " answered " + got + ", due is " + due;
    }

    private String one(String name) {
        int h = naive.count(0) - 1;
        int o = naive.count(1) - 1;
        int[] a = new int[6];
        long got;
        long due;
        switch (name) {
            case "house": case "looks": case "sway": case "cut": case "meets": case "hours": case "light": case "chain":
                return ofHouses(name, h);
            case "vote": case "mark": case "annul": case "votes": case "winner": case "ends":
                return ofLogs(name, h, o);
            case "work": case "forget": case "judge": case "done": case "undo": case "nights": case "jack": case "wood":
                return ofWorks(name, h);
            case "give": {
                a[0] = some(h);
                a[1] = upTo(4) == 0 ? -1 : some(o);
                got = town.give(a[0], a[1]) ? 1 : 0;
                due = naive.give(a[0], a[1]) ? 1 : 0;
                break;
            }
            case "holder": a[0] = some(o); got = town.holder(a[0]); due = naive.holder(a[0]); break;
            case "months": a[0] = some(240); got = town.months(a[0]); due = naive.months(a[0]); break;
            case "tide": a[0] = some(23); got = town.tide(a[0]); due = naive.tide(a[0]); break;
            case "wet": a[0] = some(23); got = town.wet(a[0]); due = naive.wet(a[0]); break;
            case "reached": a[0] = some(23); got = town.reached(a[0]); due = naive.reached(a[0]); break;
            case "law": a[0] = some(4); got = town.law(a[0]); due = naive.law(a[0]); break;
            case "worst": {
                boolean stair = random.nextBoolean();
                a[0] = some(23);
                got = town.worst(stair, a[0]);
                due = naive.worst(stair, a[0]);
                break;
            }
            case "dread": a[0] = some(99); got = town.dread(a[0]); due = naive.dread(a[0]); break;
            case "year": a[0] = some(upTo(99)); got = town.year(a[0]); due = naive.year(a[0]); break;
            case "clear":
                if (upTo(5) > 0) {
                    return null;
                }
                got = town.clear();
                due = naive.clear();
                break;
            case "posts": case "postAt": return ofRow(name);
            case "years": {
                if (upTo(5) > 0) {
                    return null;
                }
                a[0] = upTo(3) == 0 ? upTo(9) : random.nextInt();
                a[1] = some(40);
                got = town.years(a[0], a[1]);
                due = naive.years(a[0], a[1]);
                break;
            }
            case "hold":
                if (upTo(1) > 0) {
                    return null;
                }
                a[0] = some(1); got = town.hold(a[0]) ? 1 : 0; due = naive.hold(a[0]) ? 1 : 0; break;
            case "restore":
                if (upTo(1) > 0) {
                    return null;
                }
                a[0] = some(1); got = town.restore(a[0]) ? 1 : 0; due = naive.restore(a[0]) ? 1 : 0; break;
            case "count": a[0] = some(15); got = town.count(a[0]); due = naive.count(a[0]); break;
            case "place": got = town.place(); due = naive.place(); break;
            case "back": a[0] = some(50); got = town.back(a[0]); due = naive.back(a[0]); break;
            default: {
                a = new int[] {random.nextInt(), random.nextInt(), random.nextInt(), random.nextInt(), random.nextInt()};
                got = town.feed(a[0], a[1], a[2], a[3], a[4]);
                due = naive.feed(a[0], a[1], a[2], a[3], a[4]);
                break;
            }
        }
        told.append(name).append(Arrays.toString(a)).append('\n');
        return compare(name, a, got, due);
    }

    private String ofHouses(String name, int h) {
        int[] a = {some(h), some(h), some(99)};
        boolean stair = random.nextBoolean();
        int hour = some(23);
        int what = upTo(1) == 0 ? some(5) : 10 + some(h);
        int s = some(naive.count(2) - 1);
        told.append(name).append(Arrays.toString(a)).append(stair).append(hour).append(' ').append(what).append(' ').append(s).append('\n');
        switch (name) {
            case "house": return compare(name, a, town.house(a[0], what), naive.house(a[0], what));
            case "looks": return compare(name, a, town.looks(a[0], a[1]), naive.looks(a[0], a[1]));
            case "sway": return compare(name, a, town.sway(a[0], a[2]), naive.sway(a[0], a[2]));
            case "meets": return compare(name, a, town.meets(s), naive.meets(s));
            case "hours": return compare(name, a, town.hours(a[0]), naive.hours(a[0]));
            case "light": return compare(name, a, town.light(a[0]), naive.light(a[0]));
            case "chain": return compare(name, a, town.chain(a[0], a[2], what), naive.chain(a[0], a[2], what));
            default: {
                int which = stair ? s : a[0];
                return compare(name, a, town.cut(which, stair, hour), naive.cut(which, stair, hour));
            }
        }
    }

    private String ofLogs(String name, int h, int o) {
        int logs = naive.count(8);
        int close = Math.min(h, 2);
        int[] a = {some(upTo(1) == 0 ? close : h), some(Math.min(o, 1)), some(h), some(upTo(1) == 0 ? 6 : 99), some(99), some(logs)};
        int r = some(upTo(1) == 0 ? 30 : 99);
        told.append(name).append(Arrays.toString(a)).append(r).append('\n');
        switch (name) {
            case "vote": return compare(name, a, town.vote(a[2], a[1], a[0]), naive.vote(a[2], a[1], a[0]));
            case "mark": return compare(name, a, town.mark(a[0], a[4], a[3]), naive.mark(a[0], a[4], a[3]));
            case "annul": {
                int log = some(logs - 1);
                return compare(name, a, town.annul(log), naive.annul(log));
            }
            case "votes": return compare(name, a, town.votes(a[1], a[0], a[5]), naive.votes(a[1], a[0], a[5]));
            case "winner": return compare(name, a, town.winner(a[1], a[5]), naive.winner(a[1], a[5]));
            default: return compare(name, a, town.ends(a[0], a[4], r, a[5]), naive.ends(a[0], a[4], r, a[5]));
        }
    }

    private String ofWorks(String name, int h) {
        int[] a = {some(upTo(1) == 0 ? 5 : 99), some(h), 0};
        int inches = some(upTo(3) > 0 ? 6 : 99);
        a[2] = random.nextBoolean() && inches != Integer.MIN_VALUE ? -inches : inches;
        int what = upTo(1) == 0 ? 0 : 10 + some(naive.count(4) - 1);
        int n = some(99);
        told.append(name).append(Arrays.toString(a)).append(what).append(' ').append(n).append('\n');
        switch (name) {
            case "work": return compare(name, a, town.work(a[0], a[1], a[2]), naive.work(a[0], a[1], a[2]));
            case "forget": return compare(name, a, town.forget(), naive.forget());
            case "judge": return compare(name, a, town.judge(), naive.judge());
            case "done": {
                String wrong = compare(name, a, town.done(), naive.done());
                // A lot of WORKS that is wrong would stay so.
                return wrong == null && upTo(1) == 0 ? compare("forget", a, town.forget(), naive.forget()) : wrong;
            }
            case "undo": return upTo(3) > 0 ? null : compare(name, a, town.undo() ? 1 : 0, naive.undo() ? 1 : 0);
            case "nights": {
                int asked = some(2);
                return compare(name, new int[] {asked}, town.nights(asked), naive.nights(asked));
            }
            case "jack": return compare(name, new int[] {n, what}, town.jack(n, what), naive.jack(n, what));
            default: return compare(name, a, town.wood(what - 10), naive.wood(what - 10));
        }
    }

    private String ofRow(String name) {
        int[] a = {some(99), some(upTo(1) == 0 ? 15 : 99), some(9), some(9), some(30), some(naive.count(13) - 1)};
        told.append(name).append(Arrays.toString(a)).append('\n');
        if (name.equals("posts")) {
            return compare(name, a, town.posts(a[0], a[1], a[2], a[3], a[4]), naive.posts(a[0], a[1], a[2], a[3], a[4]));
        }
        return compare(name, a, town.postAt(a[0], a[1], a[2], a[3], a[4], a[5]), naive.postAt(a[0], a[1], a[2], a[3], a[4], a[5]));
    }
}
