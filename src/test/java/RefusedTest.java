import java.util.ArrayList;
import java.util.List;
import java.util.function.Supplier;

/**
 * A call that is refused, or only asks, leaves all as it was: of two towns alike one gets that call, and from then on
 * both answer alike, also behind undo, restore and read. No town gets more than the 512 calls that are promised.
 */
final class RefusedTest extends Answers {
    private static final int LEAST = Integer.MIN_VALUE;
    private static final int MOST = Integer.MAX_VALUE;
    private static final String TEXT = "house a 0 20 1;house b 5 20 2;house c 9 5 3;office o 22;office p 30;in a o;in c p;quay a;"
        + "stair a b 6;stair c ground 9;wood 3 5;wood 7 4;wood 2 98;crews 2;jack 12;tide=month/9;due=rank+load;sway=wind/3;"
        + "falls if gone==1 and x==5;bad if height==20;";
    private static final int[] NO_HOUSES = {-1, 3, 16, LEAST, MOST};
    private static final int[] NO_OFFICES = {-1, 2, 12, LEAST, MOST};
    private static final int[] NONE_OF_100 = {-1, 100, LEAST, MOST};

    private interface Call {
        long on(StiltTown town);
    }

    private RefusedTest() {
    }

    public static void main(String[] args) {
        promise = "2, 3 feed, back refused"; tape();
        promise = "4 read: a text with a FAULT changes nothing"; faults();
        promise = "7, 9 give, months refused"; town();
        promise = "20 work refused"; works();
        promise = "23, 24 done, undo refused"; done();
        promise = "31 year refused"; year();
        promise = "35, 36, 37 logs refused"; logs();
        promise = "41, 42, 43 years, hold, restore refused"; later();
        promise = "what asks changes nothing"; questions();
        promise = "what asks for what is not there changes nothing"; noSuchQuestions();
        end();
    }

    /** All there can be: two lots, WORKS told, LOGS, a row, both SLOTS, a tape and a FAULT. */
    private static StiltTown rich() {
        StiltTown town = new StiltTown();
        Tape.read(town, TEXT);
        town.months(5);
        town.work(0, 1, 3);
        town.done();
        town.vote(0, 0, 1);
        town.mark(2, 10, 20);
        town.hold(0);
        town.work(2, 2, 4);
        town.work(1, 1, -2);
        town.done();
        town.months(8);
        town.vote(1, 1, 2);
        town.annul(0);
        town.work(7, 0, 2);
        town.hold(1);
        town.vote(2, 1, 0);
        town.give(1, 1);
        town.work(6, 2, -3);
        town.year(40);
        town.year(30);
        Tape.read(town, "jack 0;");
        Tape.put(town, "jack 44;crews 3;");
        return town;
    }

    /** What can be asked without a change; the FAULT's place and what is on the tape apart. */
    private static List<Long> picture(StiltTown town) {
        List<Long> answers = new ArrayList<>();
        for (int what = 0; what < 16; what++) {
            answers.add((long) (what == 11 ? 0 : town.count(what)));
        }
        int houses = town.count(0);
        for (int h = 0; h < 3; h++) {
            answers.add((long) town.house(h, 1));
            answers.add((long) town.house(h, 3));
            answers.add((long) town.house(h, 5));
            answers.add((long) town.ends(h, 12, 1, town.count(8)));
        }
        for (int i = 0; i < 3; i++) {
            answers.add((long) town.wood(i));
            answers.add((long) town.postAt(20, 15, 1, 1, 1, i));
            answers.add((long) town.votes(1, i, town.count(8)));
        }
        answers.add((long) town.winner(0, town.count(8)));
        answers.add((long) town.posts(20, 15, 1, 1, 1));
        answers.add((long) town.judge());
        answers.add((long) town.tide(3));
        answers.add((long) town.reached(12));
        answers.add((long) town.law(4));
        answers.add((long) town.sway(0, 30));
        answers.add((long) town.chain(0, 50, 0));
        answers.add((long) houses);
        return answers;
    }

    private static void alike(String call, StiltTown plain, StiltTown asked, boolean andTape) {
        if (andTape) {
            due(call + ": place()", asked.place(), plain.place());
            due(call + ": count(11)", asked.count(11), plain.count(11));
        }
        compare(call, plain, asked);
        due(call + ": undo()", asked.undo(), plain.undo());
        compare(call + ", undo()", plain, asked);
        due(call + ": done()", asked.done(), plain.done());
        due(call + ": restore(0)", asked.restore(0), plain.restore(0));
        compare(call + ", restore(0)", plain, asked);
        due(call + ": restore(1)", asked.restore(1), plain.restore(1));
        compare(call + ", restore(1)", plain, asked);
        due(call + ": done()", asked.done(), plain.done());
        due(call + ": read()", asked.read(), plain.read());
        due(call + ": place()", asked.place(), plain.place());
        due(call + ": count(6)", asked.count(6), plain.count(6));
    }

    private static void compare(String call, StiltTown plain, StiltTown asked) {
        List<Long> want = picture(plain);
        List<Long> got = picture(asked);
        for (int i = 0; i < want.size(); i++) {
            due(call + ": answer " + i + " of the picture", got.get(i), want.get(i));
        }
    }

    private static void leaves(String name, Supplier<StiltTown> made, Call call, long answer) {
        StiltTown plain = made.get();
        StiltTown asked = made.get();
        due(name, call.on(asked), answer);
        alike(name, plain, asked, true);
    }

    private static long number(boolean told) {
        return told ? 1 : 0;
    }

    private static void tape() {
        for (int n : new int[] {-1, LEAST, 17, 2000, 2001, MOST}) {
            leaves("back(" + n + ")", RefusedTest::rich, town -> town.back(n), -1);
        }
        leaves("back(0)", RefusedTest::rich, town -> town.back(0), 16);
        for (int bytes : new int[] {1981, 1999, 2000}) {
            Supplier<StiltTown> full = () -> {
                StiltTown town = new StiltTown();
                Tape.read(town, TEXT);
                Tape.put(town, " ".repeat(bytes - 8) + "jack 44;");
                return town;
            };
            leaves("feed behind " + bytes, full, town -> town.feed(-1, -1, -1, -1, -1), -1);
            leaves("back(" + (bytes + 1) + ")", full, town -> town.back(bytes + 1), -1);
        }
    }

    private static void faults() {
        String[] texts = {"house a 1 2 3;rain;", "quay a", "house a 1 1 1;quay a;quay a;quay a;quay a;quay a;", "crews 3;".repeat(134),
            "tide=((((((((1))))))));", "house a 1 2 3;house b 1 2 3;house a 1 2 3;", "house a 1 2 3;office o 9;in o a;", "quay a;",
            "house a 1 2 3;jack 9;crews 9;tide=99;due=99;sway=99;bad if 1==1;falls if 1==1;wood 1 99;wood 2 100;",
            "house a 1 2 3;stair a a 1;", "jack 5;jack 0;", TEXT + "crews 0;", "?", "crews 10"};
        int[] numbers = {1, 1, 2, 2, 2, 3, 4, 4, 5, 5, 5, 5, 1, 1};
        for (int i = 0; i < texts.length; i++) {
            StiltTown plain = rich();
            StiltTown asked = rich();
            plain.back(16);
            asked.back(16);
            due(texts[i], Tape.read(asked, texts[i]), numbers[i]);
            due("the tape is empty", asked.count(11), 0);
            alike(texts[i], plain, asked, false);
        }
        StiltTown fresh = new StiltTown();
        due("a FAULT at first", Tape.read(fresh, "jack 0;"), 5);
        compare("a new object behind a FAULT", new StiltTown(), fresh);
    }

    private static void town() {
        for (int h : NO_HOUSES) {
            leaves("give(" + h + ", 0)", RefusedTest::rich, town -> number(town.give(h, 0)), 0);
            leaves("give(" + h + ", NONE)", RefusedTest::rich, town -> number(town.give(h, -1)), 0);
        }
        for (int o : new int[] {-2, 2, 12, LEAST, MOST}) {
            leaves("give(0, " + o + ")", RefusedTest::rich, town -> number(town.give(0, o)), 0);
            leaves("give(1, " + o + ")", RefusedTest::rich, town -> number(town.give(1, o)), 0);
        }
        for (int n : new int[] {-1, 241, -12, 252, LEAST, MOST}) {
            leaves("months(" + n + ")", RefusedTest::rich, town -> town.months(n), -1);
        }
    }

    private static Supplier<StiltTown> withWorks(int many) {
        return () -> {
            StiltTown town = rich();
            for (int i = town.count(7); i < many; i++) {
                town.work(10 + i, i % 3, i % 2 == 0 ? -1 : -2);
            }
            return town;
        };
    }

    private static void works() {
        for (int h : NO_HOUSES) {
            leaves("work(0, " + h + ", 1)", RefusedTest::rich, town -> town.work(0, h, 1), -1);
        }
        for (int night : NONE_OF_100) {
            leaves("work(" + night + ", 0, 1)", RefusedTest::rich, town -> town.work(night, 0, 1), -1);
        }
        for (int inches : new int[] {0, 100, -100, LEAST, MOST}) {
            leaves("work(0, 0, " + inches + ")", RefusedTest::rich, town -> town.work(0, 0, inches), -1);
        }
        leaves("the 41st work", withWorks(40), town -> town.work(0, 0, -1), -1);
        leaves("the 41st work, no such one", withWorks(40), town -> town.work(0, 9, -1), -1);
        due("the 40th", withWorks(39).get().work(0, 0, -1), 39);
    }

    private static void done() {
        int[][] wrong = {{6, 0, -1, 6, 1, -1}, {6, 0, 13}, {6, 2, -7}, {6, 0, 1}, {6, 1, 7}};
        int[] reasons = {1, 2, 3, 4, 5};
        for (int i = 0; i < wrong.length; i++) {
            int[] works = wrong[i];
            int reason = reasons[i];
            Supplier<StiltTown> made = () -> {
                StiltTown town = rich();
                for (int w = 0; w < works.length; w += 3) {
                    town.work(works[w], works[w + 1], works[w + 2]);
                }
                due("reason", town.judge() % 10, reason);
                return town;
            };
            leaves("done() with reason " + reason, made, StiltTown::done, -2);
            leaves("judge() with reason " + reason, made, StiltTown::judge, made.get().judge());
        }
        Supplier<StiltTown> none = () -> {
            StiltTown town = rich();
            town.forget();
            return town;
        };
        leaves("done() without WORKS", none, StiltTown::done, 0);
        leaves("judge() without WORKS", none, StiltTown::judge, 0);
        leaves("forget() without WORKS", none, StiltTown::forget, 0);
        Supplier<StiltTown> undone = () -> {
            StiltTown town = rich();
            town.undo();
            town.undo();
            return town;
        };
        leaves("undo() of nothing", undone, town -> number(town.undo()), 0);
        leaves("undo() behind restore()", () -> {
            StiltTown town = rich();
            town.restore(0);
            return town;
        }, town -> number(town.undo()), 0);
    }

    private static Supplier<StiltTown> withYears(int many) {
        return () -> {
            StiltTown town = rich();
            for (int i = town.count(13); i < many; i++) {
                town.year(3 * i);
            }
            return town;
        };
    }

    private static void year() {
        for (int due : NONE_OF_100) {
            leaves("year(" + due + ")", RefusedTest::rich, town -> town.year(due), -1);
        }
        leaves("the 13th year", withYears(12), town -> town.year(5), -1);
        due("the 12th year", withYears(11).get().year(5), 12);
        leaves("clear() of nothing", () -> {
            StiltTown town = rich();
            town.clear();
            return town;
        }, StiltTown::clear, 0);
    }

    private static Supplier<StiltTown> withLogs(int many) {
        return () -> {
            StiltTown town = rich();
            for (int i = town.count(8); i < many; i++) {
                town.vote(i % 3, 0, i % 2);
            }
            return town;
        };
    }

    private static void logs() {
        for (int h : NO_HOUSES) {
            leaves("vote(" + h + ", 0, 0)", RefusedTest::rich, town -> town.vote(h, 0, 0), -1);
            leaves("vote(0, 0, " + h + ")", RefusedTest::rich, town -> town.vote(0, 0, h), -1);
            leaves("mark(" + h + ", 0, 0)", RefusedTest::rich, town -> town.mark(h, 0, 0), -1);
        }
        for (int o : NO_OFFICES) {
            leaves("vote(0, " + o + ", 0)", RefusedTest::rich, town -> town.vote(0, o, 0), -1);
        }
        for (int n : NONE_OF_100) {
            leaves("mark(0, " + n + ", 0)", RefusedTest::rich, town -> town.mark(0, n, 0), -1);
            leaves("mark(0, 0, " + n + ")", RefusedTest::rich, town -> town.mark(0, 0, n), -1);
        }
        // Log 3 is a VOID, there is no log 5.
        for (int log : new int[] {-1, 3, 5, 60, LEAST, MOST}) {
            leaves("annul(" + log + ")", RefusedTest::rich, town -> town.annul(log), -1);
        }
        leaves("the 61st log", withLogs(60), town -> town.vote(0, 0, 1), -1);
        leaves("the 61st log", withLogs(60), town -> town.mark(0, 1, 1), -1);
        leaves("the 61st log", withLogs(60), town -> town.annul(1), -1);
        due("the 60th log", withLogs(59).get().annul(1), 59);
    }

    private static void later() {
        for (int n : new int[] {0, -1, 41, LEAST, MOST}) {
            leaves("years(1, " + n + ")", RefusedTest::rich, town -> town.years(1, n), -1);
        }
        for (int slot : new int[] {-1, 2, LEAST, MOST}) {
            leaves("hold(" + slot + ")", RefusedTest::rich, town -> number(town.hold(slot)), 0);
            leaves("restore(" + slot + ")", RefusedTest::rich, town -> number(town.restore(slot)), 0);
        }
        for (int slot = 0; slot < 2; slot++) {
            int empty = slot;
            leaves("restore(" + slot + ") of nothing", () -> {
                StiltTown town = new StiltTown();
                Tape.read(town, TEXT);
                town.work(0, 0, -2);
                town.done();
                town.work(0, 0, -2);
                town.mark(0, 1, 1);
                town.hold(1 - empty);
                town.months(7);
                return town;
            }, town -> number(town.restore(empty)), 0);
        }
        due("a SLOT that is held again", number(rich().hold(1)), 1);
    }

    private static void asks(String name, Call call) {
        leaves(name, RefusedTest::rich, call, call.on(rich()));
    }

    private static void questions() {
        asks("place", StiltTown::place);
        asks("house", town -> town.house(0, 3));
        asks("holder", town -> town.holder(1));
        asks("months(0)", town -> town.months(0));
        asks("tide", town -> town.tide(23));
        asks("wet", town -> town.wet(23));
        asks("reached", town -> town.reached(0));
        asks("hours", town -> town.hours(1));
        asks("meets", town -> town.meets(1));
        asks("cut", town -> town.cut(0, true, 12));
        asks("cut", town -> town.cut(0, false, 12));
        asks("worst", town -> town.worst(true, 12));
        asks("worst", town -> town.worst(false, 12));
        for (int what = 0; what < 5; what++) {
            int asked = what;
            asks("law", town -> town.law(asked));
        }
        asks("wood", town -> town.wood(2));
        asks("jack", town -> town.jack(99, 0));
        asks("jack", town -> town.jack(17, 11));
        asks("judge", StiltTown::judge);
        for (int what = 0; what < 3; what++) {
            int asked = what;
            asks("nights", town -> town.nights(asked));
        }
        asks("looks", town -> town.looks(0, 2));
        asks("light", town -> town.light(2));
        asks("sway", town -> town.sway(2, 99));
        asks("chain", town -> town.chain(0, 99, 0));
        asks("chain", town -> town.chain(0, 99, 11));
        asks("dread", town -> town.dread(99));
        asks("posts", town -> town.posts(99, 99, 9, 9, 9));
        asks("postAt", town -> town.postAt(0, 0, 9, 9, 9, 1));
        asks("votes", town -> town.votes(1, 2, 3));
        asks("winner", town -> town.winner(0, 1));
        asks("ends", town -> town.ends(2, 9, 9, 2));
        asks("count", town -> town.count(3));
    }

    private static void refuses(String name, Call call) {
        leaves(name, RefusedTest::rich, call, -1);
    }

    private static void noSuchQuestions() {
        for (int none : new int[] {-1, 241, LEAST, MOST}) {
            refuses("house", town -> town.house(none, 0));
            refuses("house", town -> town.house(0, none));
            refuses("holder", town -> town.holder(none));
            refuses("tide", town -> town.tide(none));
            refuses("wet", town -> town.wet(none));
            refuses("reached", town -> town.reached(none));
            refuses("hours", town -> town.hours(none));
            refuses("meets", town -> town.meets(none));
            refuses("cut", town -> town.cut(none, true, 0));
            refuses("cut", town -> town.cut(none, false, 0));
            refuses("cut", town -> town.cut(0, false, none));
            refuses("worst", town -> town.worst(true, none));
            refuses("law", town -> town.law(none));
            refuses("wood", town -> town.wood(none));
            refuses("jack", town -> town.jack(none, 0));
            refuses("jack", town -> town.jack(5, none));
            refuses("nights", town -> town.nights(none));
            refuses("looks", town -> town.looks(0, none));
            refuses("looks", town -> town.looks(none, 0));
            refuses("looks", town -> town.looks(none, none));
            refuses("light", town -> town.light(none));
            refuses("sway", town -> town.sway(none, 0));
            refuses("sway", town -> town.sway(0, none));
            refuses("chain", town -> town.chain(none, 0, 0));
            refuses("chain", town -> town.chain(0, none, 0));
            refuses("chain", town -> town.chain(0, 0, none));
            refuses("dread", town -> town.dread(none));
            refuses("posts", town -> town.posts(none, 0, 0, 0, 0));
            refuses("posts", town -> town.posts(0, 0, 0, 0, none));
            refuses("postAt", town -> town.postAt(0, none, 0, 0, 0, 0));
            refuses("postAt", town -> town.postAt(0, 0, 0, 0, 0, none));
            refuses("votes", town -> town.votes(none, 0, 0));
            refuses("votes", town -> town.votes(0, 0, none));
            refuses("winner", town -> town.winner(none, 0));
            refuses("winner", town -> town.winner(0, none));
            refuses("ends", town -> town.ends(none, 0, 0, 0));
            refuses("ends", town -> town.ends(0, none, 0, 0));
            refuses("ends", town -> town.ends(0, 0, none, 0));
            refuses("ends", town -> town.ends(0, 0, 0, none));
            refuses("count", town -> town.count(none));
        }
    }
}
