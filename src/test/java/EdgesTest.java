import java.util.function.IntUnaryOperator;

/** The edges that the document names for calls: the least and the most of what is asked, NONE and -2, what is empty or full. */
final class EdgesTest extends Answers {
    private static final int LEAST = Integer.MIN_VALUE;
    private static final int MOST = Integer.MAX_VALUE;
    private static final String THREE = "house a 1 20 3;house b 2 30 4;house c 3 40 5;";

    private EdgesTest() {
    }

    public static void main(String[] args) {
        promise = "6 - 17 no such one"; boundsOfTown();
        promise = "18 - 25 no such one"; boundsOfWorks();
        promise = "26 - 34 no such one"; boundsOfLooks();
        promise = "35 - 44 no such one"; boundsOfLogs();
        promise = "7, 42, 43 false: no such one"; refusedOnes();
        promise = "nothing is told"; nothingTold();
        promise = "NONE is looked at ahead of -2"; noneFirst();
        promise = "a town as large as can be"; fullest();
        promise = "a text is in place of the one ahead"; textAfterText();
        promise = "7 give"; given();
        promise = "9 months"; months();
        promise = "10 - 13 tide and doors"; doors();
        promise = "15, 16 cut, worst"; cuts();
        promise = "17 law"; laws();
        promise = "19 jack"; jacks();
        promise = "20, 21 forty works"; fortyWorks();
        promise = "22 judge"; judged();
        promise = "23 done"; sawn();
        promise = "23, 24 twenty lots"; twentyLots();
        promise = "25 nights"; nights();
        promise = "26, 27 looks, light"; looks();
        promise = "28, 29, 30 sway, chain, dread"; chains();
        promise = "31, 32 twelve years"; twelveYears();
        promise = "33, 34 posts"; posts();
        promise = "35, 36, 37 sixty logs"; sixtyLogs();
        promise = "38, 39 votes as known"; votes();
        promise = "40 ends as known"; ends();
        promise = "41 years by lots"; years();
        promise = "41 LOT: 32 bits that wrap"; lots();
        promise = "42, 43 two slots"; slots();
        end();
    }

    /** From least to most there are such ones, at both ends and between; beside them there are none. */
    private static void bounds(String call, int least, int most, IntUnaryOperator asked) {
        for (int one : new int[] {least, most, least + (most - least) / 2}) {
            due(call + " has " + one, asked.applyAsInt(one) == StiltTown.NONE, false);
        }
        for (int none : new int[] {least - 1, most + 1, LEAST, LEAST + 1, MOST, MOST - 1, least - 65536, most + 65536}) {
            due(call + " of " + none, asked.applyAsInt(none), StiltTown.NONE);
        }
    }

    private static String name(char first, int i) {
        return "" + first + (char) ('a' + i);
    }

    /** As many of all as a text can tell. */
    private static String fullText() {
        StringBuilder text = new StringBuilder("crews 9;jack 99;tide=hour-month;due=rank+load;sway=wind;");
        for (int i = 0; i < 16; i++) {
            text.append("house ").append(name('h', i)).append(' ').append(i < 15 ? i : 40).append(' ').append(i < 15 ? 5 * i : 99)
                .append(' ').append(1 + i % 9).append(';');
        }
        for (int i = 0; i < 12; i++) {
            text.append("office ").append(name('o', i)).append(' ').append(i < 11 ? i : 99).append(';');
        }
        for (int i = 0; i < 12; i++) {
            text.append("in ").append(name('h', 15 - i)).append(' ').append(name('o', i)).append(';');
        }
        for (int i = 0; i < 12; i++) {
            text.append("stair ").append(name('h', 15 - i)).append(' ').append(i < 11 ? name('h', 14 - i) : "ground").append(" 99;");
        }
        for (int i = 0; i < 4; i++) {
            text.append("quay ").append(name('h', 12 + i)).append(";falls if gone==9;bad if x==").append(37 + i).append(';');
        }
        for (int i = 0; i < 8; i++) {
            text.append("wood ").append(i < 7 ? 1 + i : 60).append(' ').append(i < 7 ? i : 99).append(';');
        }
        return text.toString();
    }

    private static StiltTown full() {
        StiltTown town = new StiltTown();
        due("the fullest text", Tape.read(town, fullText()), 0);
        return town;
    }

    private static void boundsOfTown() {
        for (int houses : new int[] {3, 16}) {
            StiltTown town = houses == 3 ? town(THREE + "office o 4;stair a ground 9;") : full();
            int offices = houses == 3 ? 1 : 12;
            int stairs = houses == 3 ? 1 : 12;
            bounds("house(h, 0)", 0, houses - 1, h -> town.house(h, 0));
            bounds("house(0, what)", 0, 5, what -> town.house(0, what));
            bounds("holder(o)", 0, offices - 1, town::holder);
            bounds("months(n)", 0, 240, town::months);
            bounds("tide(hour)", 0, 23, town::tide);
            bounds("wet(hour)", 0, 23, town::wet);
            bounds("reached(hour)", 0, 23, town::reached);
            bounds("hours(h)", 0, houses - 1, town::hours);
            bounds("meets(s)", 0, stairs - 1, town::meets);
            bounds("cut(s, true, 0)", 0, stairs - 1, s -> town.cut(s, true, 0));
            bounds("cut(h, false, 0)", 0, houses - 1, h -> town.cut(h, false, 0));
            bounds("cut(0, true, hour)", 0, 23, hour -> town.cut(0, true, hour));
            bounds("cut(0, false, hour)", 0, 23, hour -> town.cut(0, false, hour));
            bounds("worst(true, hour)", 0, 23, hour -> town.worst(true, hour));
            bounds("worst(false, hour)", 0, 23, hour -> town.worst(false, hour));
            bounds("law(what)", 0, 4, town::law);
        }
    }

    private static void boundsOfWorks() {
        for (int woods : new int[] {1, 8}) {
            String text = woods == 8 ? fullText() : THREE + "wood 1 99;";
            int houses = woods == 8 ? 16 : 3;
            StiltTown town = town(text);
            bounds("wood(i)", 0, woods - 1, town::wood);
            bounds("jack(n, 0)", 1, 99, n -> town.jack(n, 0));
            bounds("jack(n, 10)", 1, 99, n -> town.jack(n, 10));
            bounds("jack(5, 10 + i)", 10, 9 + woods, what -> town.jack(5, what));
            for (int what = 1; what < 10; what++) {
                due("jack(5, " + what + ")", town.jack(5, what), -1);
            }
            due("jack(0, 99)", town.jack(0, 99), -1);
            bounds("work(night, 0, 1)", 0, 99, night -> town(text).work(night, 0, 1));
            bounds("work(0, h, 1)", 0, houses - 1, h -> town(text).work(0, h, 1));
            for (int inches : new int[] {-99, -98, -1, 1, 98, 99}) {
                due("work(0, 0, " + inches + ")", town(text).work(0, 0, inches), 0);
            }
            for (int inches : new int[] {0, 100, -100, 101, -101, LEAST, MOST, 65536, 1 << 31}) {
                due("work(0, 0, " + inches + ")", town.work(0, 0, inches), -1);
            }
            due("none is told", town.count(7), 0);
            bounds("nights(what)", 0, 2, town::nights);
        }
    }

    private static void boundsOfLooks() {
        for (int houses : new int[] {3, 16}) {
            String text = houses == 3 ? THREE : fullText();
            StiltTown town = town(text);
            bounds("looks(h, 0)", 1, houses - 1, h -> h == 0 ? -1 : town.looks(h, 0));
            bounds("looks(0, h)", 1, houses - 1, h -> h == 0 ? -1 : town.looks(0, h));
            for (int h = -1; h <= houses; h++) {
                due("looks(" + h + ", " + h + ")", town.looks(h, h), -1);
            }
            bounds("light(h)", 0, houses - 1, town::light);
            bounds("sway(h, 0)", 0, houses - 1, h -> town.sway(h, 0));
            bounds("sway(0, wind)", 0, 99, wind -> town.sway(0, wind));
            StiltTown chained = town(text);
            bounds("chain(h, 0, 0)", 0, houses - 1, h -> chained.chain(h, 0, 0));
            bounds("chain(0, wind, 0)", 0, 99, wind -> chained.chain(0, wind, 0));
            bounds("chain(0, wind, 10)", 0, 99, wind -> chained.chain(0, wind, 10));
            bounds("chain(0, 0, 10 + h)", 10, 9 + houses, what -> chained.chain(0, 0, what));
            for (int what = 2; what < 10; what++) {
                due("chain(0, 0, " + what + ")", chained.chain(0, 0, what), -1);
            }
            due("chain(0, 0, -1)", chained.chain(0, 0, -1), -1);
            bounds("dread(wind)", 0, 99, chained::dread);
        }
        bounds("year(due)", 0, 99, due -> new StiltTown().year(due));
        for (int years : new int[] {0, 1, 12}) {
            StiltTown row = new StiltTown();
            for (int i = 0; i < years; i++) {
                row.year(99 * (i % 2));
            }
            bounds("posts(h0, ..)", 0, 99, h0 -> row.posts(h0, 0, 0, 0, 0));
            bounds("posts(.., slack, ..)", 0, 99, slack -> row.posts(0, slack, 0, 0, 0));
            bounds("posts(.., u, ..)", 0, 99, u -> row.posts(0, 0, u, 0, 0));
            bounds("posts(.., s, ..)", 0, 99, s -> row.posts(0, 0, 0, s, 0));
            bounds("posts(.., c)", 0, 99, c -> row.posts(0, 0, 0, 0, c));
            if (years > 0) {
                bounds("postAt(h0, ..)", 0, 99, h0 -> row.postAt(h0, 0, 0, 0, 0, 0));
                bounds("postAt(.., slack, ..)", 0, 99, slack -> row.postAt(0, slack, 0, 0, 0, 0));
                bounds("postAt(.., u, ..)", 0, 99, u -> row.postAt(0, 0, u, 0, 0, 0));
                bounds("postAt(.., s, ..)", 0, 99, s -> row.postAt(0, 0, 0, s, 0, 0));
                bounds("postAt(.., c, ..)", 0, 99, c -> row.postAt(0, 0, 0, 0, c, 0));
                bounds("postAt(.., i)", 0, years - 1, i -> row.postAt(0, 0, 0, 0, 0, i));
            } else {
                due("postAt(.., 0)", row.postAt(0, 0, 0, 0, 0, 0), -1);
                due("postAt(.., -1)", row.postAt(0, 0, 0, 0, 0, -1), -1);
            }
        }
    }

    private static void boundsOfLogs() {
        for (int houses : new int[] {3, 16}) {
            String text = houses == 3 ? THREE + "office o 4;" : fullText();
            int offices = houses == 3 ? 1 : 12;
            bounds("vote(h, 0, 0)", 0, houses - 1, h -> town(text).vote(h, 0, 0));
            bounds("vote(0, o, 0)", 0, offices - 1, o -> town(text).vote(0, o, 0));
            bounds("vote(0, 0, h)", 0, houses - 1, h -> town(text).vote(0, 0, h));
            bounds("mark(h, 0, 0)", 0, houses - 1, h -> town(text).mark(h, 0, 0));
            bounds("mark(0, year, 0)", 0, 99, year -> town(text).mark(0, year, 0));
            bounds("mark(0, 0, height)", 0, 99, height -> town(text).mark(0, 0, height));
            bounds("annul(log)", 0, 2, log -> threeLogs(text).annul(log));
            for (int logs : new int[] {0, 3, 60}) {
                StiltTown town = town(text);
                for (int i = 0; i < logs; i++) {
                    due("vote " + i, town.vote(i % houses, i % offices, 0), i);
                }
                bounds("votes(o, 0, 0)", 0, offices - 1, o -> town.votes(o, 0, 0));
                bounds("votes(0, h, 0)", 0, houses - 1, h -> town.votes(0, h, 0));
                bounds("votes(0, 0, n)", 0, logs, n -> town.votes(0, 0, n));
                bounds("winner(o, 0)", 0, offices - 1, o -> town.winner(o, 0));
                bounds("winner(0, n)", 0, logs, n -> town.winner(0, n));
                bounds("ends(h, ..)", 0, houses - 1, h -> town.ends(h, 0, 0, 0));
                bounds("ends(.., year, ..)", 0, 99, year -> town.ends(0, year, 0, 0));
                bounds("ends(.., r, ..)", 0, 99, r -> town.ends(0, 0, r, 0));
                bounds("ends(.., n)", 0, logs, n -> town.ends(0, 0, 0, n));
            }
            bounds("years(0, n)", 1, 40, n -> town(text).years(0, n));
        }
        StiltTown none = new StiltTown();
        bounds("years(0, n) without HOUSES", 1, 40, n -> none.years(0, n));
        bounds("count(what)", 0, 15, none::count);
        bounds("back(n) of 20", 0, 20, n -> {
            StiltTown town = new StiltTown();
            town.feed(1, 2, 3, 4, 5);
            int left = town.back(n);
            due("so many are left", town.count(11), left == -1 ? 20 : 20 - n);
            return left;
        });
    }

    private static StiltTown threeLogs(String text) {
        StiltTown town = town(text);
        town.vote(0, 0, 0);
        town.mark(0, 0, 0);
        town.vote(1, 0, 0);
        return town;
    }

    private static void refusedOnes() {
        for (int houses : new int[] {0, 3, 16}) {
            StiltTown town = houses == 0 ? town("office o 4;") : houses == 3 ? town(THREE + "office o 4;") : full();
            int offices = houses == 16 ? 12 : 1;
            for (int h : new int[] {-1, -2, houses, houses + 1, LEAST, MOST}) {
                due("give(" + h + ", 0)", town.give(h, 0), false);
                due("give(" + h + ", NONE)", town.give(h, -1), false);
                due("give(" + h + ", -2)", town.give(h, -2), false);
            }
            for (int o : new int[] {-2, -3, offices, offices + 1, LEAST, MOST}) {
                due("give(0, " + o + ")", town.give(0, o), false);
            }
            due("give(last, last)", town.give(houses - 1, offices - 1), houses > 0);
            due("give(last, NONE)", town.give(houses - 1, -1), houses > 0);
            for (int slot : new int[] {-1, 2, 3, LEAST, MOST}) {
                due("hold(" + slot + ")", town.hold(slot), false);
                due("restore(" + slot + ")", town.restore(slot), false);
            }
            due("restore(0) of nothing", town.restore(0), false);
            due("restore(1) of nothing", town.restore(1), false);
            due("hold(1)", town.hold(1), true);
            due("restore(0) of nothing", town.restore(0), false);
            due("restore(1)", town.restore(1), true);
            due("restore(1) again", town.restore(1), true);
            due("hold(0)", town.hold(0), true);
            due("restore(0)", town.restore(0), true);
            due("restore(2)", town.restore(2), false);
        }
    }

    /** What a new object answers, and one that has read an empty text. */
    private static void nothingTold() {
        for (int i = 0; i < 2; i++) {
            StiltTown town = new StiltTown();
            if (i == 1) {
                due("read()", town.read(), 0);
            }
            due("place()", town.place(), -1);
            for (int what = 0; what < 16; what++) {
                due("count(" + what + ")", town.count(what), what == 5 ? 2 : what == 6 ? 10 : 0);
            }
            for (int what = 0; what < 6; what++) {
                due("house(0, " + what + ")", town.house(0, what), -1);
            }
            due("holder(0)", town.holder(0), -1);
            due("months(240)", town.months(240), 0);
            due("months(25)", town.months(25), 1);
            for (int hour = 0; hour < 24; hour++) {
                due("tide", town.tide(hour), 0);
                due("wet", town.wet(hour), 0);
                due("reached", town.reached(hour), 0);
                due("worst(true)", town.worst(true, hour), -2);
                due("worst(false)", town.worst(false, hour), -2);
            }
            due("hours(0)", town.hours(0), -1);
            due("meets(0)", town.meets(0), -1);
            due("cut(0, true, 0)", town.cut(0, true, 0), -1);
            due("cut(0, false, 0)", town.cut(0, false, 0), -1);
            for (int what = 0; what < 5; what++) {
                due("law(" + what + ")", town.law(what), 0);
            }
            due("wood(0)", town.wood(0), -1);
            due("jack(1, 0)", town.jack(1, 0), -2);
            due("jack(99, 0)", town.jack(99, 0), -2);
            due("jack(1, 10)", town.jack(1, 10), -1);
            due("work(0, 0, 1)", town.work(0, 0, 1), -1);
            due("forget()", town.forget(), 0);
            due("judge()", town.judge(), 0);
            due("done()", town.done(), 0);
            due("undo()", town.undo(), false);
            for (int what = 0; what < 3; what++) {
                due("nights(" + what + ")", town.nights(what), 0);
            }
            due("looks(0, 1)", town.looks(0, 1), -1);
            due("light(0)", town.light(0), -1);
            due("sway(0, 0)", town.sway(0, 0), -1);
            due("chain(0, 0, 0)", town.chain(0, 0, 0), -1);
            due("chain(0, 0, 10)", town.chain(0, 0, 10), -1);
            due("dread(0)", town.dread(0), -2);
            due("dread(99)", town.dread(99), -2);
            due("clear()", town.clear(), 0);
            due("posts", town.posts(99, 99, 99, 99, 99), 0);
            due("postAt", town.postAt(99, 99, 99, 99, 99, 0), -1);
            due("vote(0, 0, 0)", town.vote(0, 0, 0), -1);
            due("mark(0, 0, 0)", town.mark(0, 0, 0), -1);
            due("annul(0)", town.annul(0), -1);
            due("votes(0, 0, 0)", town.votes(0, 0, 0), -1);
            due("winner(0, 0)", town.winner(0, 0), -1);
            due("ends(0, 0, 0, 0)", town.ends(0, 0, 0, 0), -1);
            due("years(1, 40)", town.years(1, 40), 0);
            due("MONTH", town.count(9), 1);
            due("back(0)", town.back(0), 0);
            due("back(1)", town.back(1), -1);
            due("restore(0)", town.restore(0), false);
            due("hold(0)", town.hold(0), true);
            due("restore(0)", town.restore(0), true);
        }
    }

    private static void noneFirst() {
        StiltTown bare = town("house a 1 20 3;office o 4;");
        due("house without OFFICE", bare.house(0, 3), -2);
        due("no HOUSE", bare.house(1, 3), -1);
        due("holder of none", bare.holder(0), -2);
        due("no OFFICE", bare.holder(1), -1);
        due("worst without STAIRS", bare.worst(true, 23), -2);
        due("no HOUR", bare.worst(true, 24), -1);
        due("no HOUR", bare.worst(true, -1), -1);
        due("worst without HOUSES", new StiltTown().worst(false, 0), -2);
        due("no HOUR without HOUSES", new StiltTown().worst(false, 24), -1);
        due("can't be", bare.jack(5, 0), -2);
        due("no such n", bare.jack(0, 0), -1);
        due("no such n", bare.jack(100, 0), -1);
        due("no such WOOD", bare.jack(5, 10), -1);
        StiltTown one = town("house a 1 20 3;wood 4 0;");
        due("can't be", one.jack(4, 10), -2);
        due("no such WOOD", one.jack(4, 11), -1);
        due("no such n", one.jack(100, 10), -1);
        StringBuilder nine = new StringBuilder();
        for (int i = 0; i < 9; i++) {
            nine.append("house ").append(name('h', i)).append(" 0 1 1;");
        }
        StiltTown many = town(nine.toString());
        due("more than 8", many.nights(0), -2);
        due("more than 8", many.nights(1), -2);
        due("no such what", many.nights(3), -1);
        due("no such what", many.nights(-1), -1);
        due("it stands", many.chain(0, 0, 11), -2);
        due("no HOUSE", many.chain(9, 0, 11), -1);
        due("no WIND", many.chain(0, 100, 11), -1);
        due("no such what", many.chain(0, 0, 19), -1);
        due("no HOUSES", new StiltTown().dread(99), -2);
        due("no WIND without HOUSES", new StiltTown().dread(100), -1);
        due("no WIND without HOUSES", new StiltTown().dread(-1), -1);
        due("no VOTES", bare.winner(0, 0), -2);
        due("no OFFICE", bare.winner(1, 0), -1);
        due("no such n", bare.winner(0, 1), -1);
        bare.mark(0, 1, 1);
        bare.mark(0, 1, 2);
        due("no ENDS", bare.ends(0, 1, 9, 2), -2);
        due("no HOUSE", bare.ends(1, 1, 9, 2), -1);
        due("no YEAR", bare.ends(0, 100, 9, 2), -1);
        due("no such r", bare.ends(0, 1, 100, 2), -1);
        due("no such n", bare.ends(0, 1, 9, 3), -1);
        due("no YEARS", bare.posts(0, 0, 0, 0, 0), 0);
        due("no such h0", bare.posts(100, 0, 0, 0, 0), -1);
        due("no such c", bare.posts(0, 0, 0, 0, 100), -1);
    }

    private static void fullest() {
        StiltTown town = full();
        int[] counts = {16, 12, 12, 4, 8, 9, 99, 0, 0, 0, 0, 0, 0, 0, 4, 4};
        for (int what = 0; what < 16; what++) {
            due("count(" + what + ")", town.count(what), counts[what]);
        }
        due("x", town.house(15, 0), 40);
        due("HEIGHT", town.house(15, 1), 99);
        due("LOAD", town.house(15, 2), 7);
        due("OFFICE", town.house(4, 3), 11);
        due("no OFFICE", town.house(3, 3), -2);
        due("RANK", town.house(4, 4), 99);
        due("DUE", town.house(4, 5), 99);
        due("holder", town.holder(11), 4);
        due("WOOD", town.wood(7), 99);
        due("all are dry", town.wet(0), 0);
        due("wet at 23", town.wet(23), 31);
        due("reached at 0", town.reached(0), 0xfff0);
        due("hours", town.hours(15), 24);
        due("a STAIR to the ground", town.meets(11), 1);
        // The 99 inches from the last HOUSE to the ground would be too many for none.
        due("all are BAD that can be", town.law(4), 1 << 15);
        due("jack", town.jack(99, 17), 1);
        due("light", town.light(15), 3);
        due("looks", town.looks(15, 14), 1);
        due("chain", town.chain(15, 99, 25), 0);
        due("dread", town.dread(99), 0);
        due("bound", town.nights(2), 2);
        for (int h = 0; h < 16; h++) {
            due("vote " + h, town.vote(h, 11, h / 8 * 8), h);
        }
        due("votes", town.votes(11, 8, 16), 8);
        due("the higher of alike ones", town.winner(11, 16), 8);
    }

    /** A text has nothing of those ahead of it, whatever they told and whether they were right or not. */
    private static void textAfterText() {
        StiltTown town = new StiltTown();
        for (int i = 0; i < 2; i++) {
            due("the fullest", Tape.read(town, fullText()), 0);
            town.months(5);
            town.hold(i % 2);
            town.year(4);
            town.work(0, 0, 1);
            town.vote(0, 0, 0);
            due("a fault", Tape.read(town, fullText() + "wood 5 5;"), 2);
            due("a fault", Tape.read(town, "house a 0 0 1;crews 1;jack 1;tide=90;due=90;sway=90;quay b;"), 4);
            due("all stays", town.count(0) + town.count(5) + town.count(6) + town.count(7) + town.count(8), 16 + 9 + 99 + 1 + 1);
            due("a small one", Tape.read(town, "house a 7 50 2;house b 8 50 2;"), 0);
            for (int what = 0; what < 16; what++) {
                due("count(" + what + ")", town.count(what), what == 0 ? 2 : what == 5 ? 2 : what == 6 ? 10 : 0);
            }
            due("x", town.house(1, 0), 8);
            due("OFFICE", town.house(1, 3), -2);
            due("RANK", town.house(1, 4), 0);
            due("DUE", town.house(1, 5), 0);
            due("tide", town.tide(23), 0);
            due("sway", town.sway(0, 99), 0);
            due("reached", town.reached(0), 0);
            due("bad", town.law(2), 0);
            due("chain", town.chain(0, 99, 0), 1);
            due("jack", town.jack(60, 0), -2);
            due("restore", town.restore(i % 2), false);
            due("undo", town.undo(), false);
            // With one OFFICE and one piece of WOOD the rest is still none.
            due("another one", Tape.read(town, "office o 3;house a 7 50 2;wood 5 1;stair a ground 50;quay a;"), 0);
            due("holder", town.holder(0), -2);
            due("holder of none", town.holder(1), -1);
            due("give", town.give(0, 0), true);
            due("RANK", town.house(0, 4), 3);
            due("wood", town.wood(0), 1);
            due("no wood", town.wood(1), -1);
            due("jack", town.jack(5, 0), 1);
            due("jack", town.jack(6, 0), -2);
            due("reached", town.reached(0), 1);
            due("worst", town.worst(true, 0), 0);
            due("works", town.work(0, 0, 5), 0);
            due("votes", town.vote(0, 0, 0), 0);
            due("done", town.done(), 1);
        }
        lawsAfterLaws();
        woodsAfterWoods();
    }

    /** A piece is cut to the lengths that are told now, not to those of a text ahead. */
    private static void woodsAfterWoods() {
        StiltTown town = town("wood 2 1;wood 3 2;wood 4 3;");
        due("read", Tape.read(town, "house a 0 40 1;wood 2 5;crews 9;"), 0);
        town.work(0, 0, -3);
        town.work(0, 0, -4);
        town.work(0, 0, 2);
        due("done()", town.done(), 1);
        due("2 inches", town.wood(0), 4);
        due("read", Tape.read(town, "wood 2 1;wood 3 2;wood 4 3;"), 0);
        for (int i = 0; i < 3; i++) {
            due("as told", town.wood(i), i + 1);
        }
        due("read", Tape.read(town, "house a 0 40 1;wood 2 5;"), 0);
        due("2 and 2", town.jack(4, 0), 2);
        due("no 3", town.jack(3, 0), -2);
    }

    /** One law at a time, each text without those of the texts ahead, and as long as can be. */
    private static void lawsAfterLaws() {
        StiltTown town = new StiltTown();
        String rear = "house a 1 50 1;house b 1 50 1;";
        String[] laws = {"tide=", "due=", "sway=", "bad if 1<", "falls if 1<"};
        for (int i = 0; i < 15; i++) {
            int law = (i + i / 5) % 5;
            due("read", Tape.read(town, laws[law] + "1" + "+1".repeat(i % 2 == 0 ? 190 : 3) + "-" + (i % 2 == 0 ? "160" : "1") + ";" + rear), 0);
            int value = i % 2 == 0 ? 31 : 3;
            due("tide", town.tide(0), law == 0 ? value : 0);
            due("due", town.house(0, 5), law == 1 ? value : 0);
            due("sway", town.sway(0, 0), law == 2 ? value : 0);
            due("bad", town.law(2), law == 3 ? 2 : 0);
            due("falls", town.chain(0, 0, 0), law == 4 ? 2 : 1);
            due("bad RULES", town.count(15), law == 3 ? 1 : 0);
            due("falls RULES", town.count(14), law == 4 ? 1 : 0);
        }
    }

    private static void given() {
        String text = THREE + "office o 7;office p 8;in a o;in b p;";
        StiltTown town = town(text);
        due("c gets the OFFICE of a", town.give(2, 0), true);
        due("who was in it is in none then", town.house(0, 3), -2);
        due("RANK of none", town.house(0, 4), 0);
        due("RANK", town.house(2, 4), 7);
        due("b stays", town.house(1, 3), 1);
        due("c gets the OFFICE of b", town.give(2, 1), true);
        due("c left its own", town.holder(0), -2);
        due("b is in none", town.house(1, 3), -2);
        due("c", town.holder(1), 2);
        due("its own again", town.give(2, 1), true);
        due("c", town.holder(1), 2);
        due("c leaves", town.give(2, -1), true);
        due("c", town.house(2, 3), -2);
        due("nobody", town.holder(1), -2);
        due("leaves none", town.give(2, -1), true);
        StiltTown other = town(text);
        due("a leaves", other.give(0, -1), true);
        due("b stays", other.holder(1), 1);
        due("c gets what is free", other.give(2, 0), true);
        due("b stays", other.holder(1), 1);
        due("HEIGHT stays", other.house(2, 1), 40);
    }

    private static void months() {
        StiltTown town = town("house a 1 2 3;tide=month;sway=month;bad if month==11;");
        due("months(0)", town.months(0), 0);
        due("months(11)", town.months(11), 11);
        due("tide", town.tide(0), 11);
        due("bad", town.law(2), 1);
        due("months(0)", town.months(0), 11);
        due("months(1)", town.months(1), 0);
        due("tide", town.tide(0), 0);
        due("months(12)", town.months(12), 0);
        due("months(13)", town.months(13), 1);
        due("months(240)", town.months(240), 1);
        due("months(239)", town.months(239), 0);
        due("months(241)", town.months(241), -1);
        due("months(-1)", town.months(-1), -1);
        due("months(-12)", town.months(-12), -1);
        due("MONTH stays", town.count(9), 0);
    }

    private static void doors() {
        StiltTown town = town("house a 0 10 1;house b 0 15 1;house c 0 99 1;quay a;stair a b 5;stair c ground 99;stair b ground 14;tide=hour-1;");
        due("as far as REACH", town.meets(0), 1);
        due("99 inches", town.meets(1), 1);
        due("one more than REACH", town.meets(2), 0);
        due("TIDE 0", town.reached(0), 7);
        due("TIDE 0 still", town.reached(1), 7);
        due("TIDE 1: not by the ground", town.reached(2), 3);
        due("TIDE 10: as high as a", town.reached(11), 3);
        due("TIDE 10: none is lower", town.wet(11), 0);
        due("TIDE 11: a is wet", town.wet(12), 1);
        due("TIDE 11: nor b without a", town.reached(12), 0);
        due("TIDE 15", town.wet(16), 1);
        due("TIDE 16", town.wet(17), 3);
        due("hours", town.hours(0), 12);
        due("hours", town.hours(1), 12);
        due("hours", town.hours(2), 2);
        due("none at any HOUR", town("house a 0 0 1;tide=1;quay a;").hours(0), 0);
        due("each HOUR", town("house a 0 0 1;quay a;").hours(0), 24);
        StiltTown level = town("house a 0 0 1;house b 0 0 1;house c 0 1 1;stair a ground 0;stair a b 0;stair b c 0;");
        due("REACH 0", level.meets(1), 1);
        due("REACH 0, an inch apart", level.meets(2), 0);
        due("on the ground", level.reached(0), 3);
        // A STAIR leads both ways, and a WET HOUSE leads on to none.
        StiltTown both = town("house a 0 9 1;house b 0 3 1;house c 0 9 1;stair b a 9;stair c b 9;quay c;tide=4;");
        due("b is WET", both.reached(0), 4);
        due("b is not", town("house a 0 9 1;house b 0 4 1;house c 0 9 1;stair b a 9;stair c b 9;quay c;tide=4;").reached(0), 7);
        due("one QUAY told four times", town("house a 0 9 1;quay a;quay a;quay a;quay a;").reached(0), 1);
    }

    private static void cuts() {
        // a is the QUAY, b and c behind it; d on its own is reached by the ground, e by nobody.
        StiltTown town = town("house a 0 9 1;house b 0 9 1;house c 0 9 1;house d 0 9 1;house e 0 9 1;quay a;stair a b 0;stair b c 0;stair d ground 9;stair e d 0;stair e c 0;tide=hour/20;");
        due("none is alone", town.cut(0, true, 0), 0);
        due("the HOUSE itself is not counted", town.cut(3, false, 0), 0);
        due("a and no way round", town.cut(0, true, 20), 4);
        due("the last one", town.cut(2, true, 20), 0);
        due("d behind e", town.cut(3, true, 20), 1);
        due("HOUSES behind the QUAY", town.cut(0, false, 20), 4);
        due("HOUSES behind b", town.cut(1, false, 20), 3);
        due("HOUSES behind d", town.cut(3, false, 20), 0);
        due("worst STAIR of none that cuts: the first", town.worst(true, 0), 0);
        due("worst HOUSE of none that cuts: the first", town.worst(false, 0), 0);
        due("worst STAIR", town.worst(true, 23), 0);
        due("worst HOUSE", town.worst(false, 23), 0);
        StiltTown alike = town("house a 0 9 1;house b 0 9 1;house c 0 9 1;house d 0 9 1;house e 0 9 1;quay b;quay d;stair e ground 0;stair a b 0;stair c d 0;");
        due("the first STAIR of alike ones", alike.worst(true, 5), 1);
        due("the first HOUSE of alike ones", alike.worst(false, 5), 1);
        due("a HOUSE that is not REACHED", alike.cut(4, false, 5), 0);
        due("a STAIR that does not meet", alike.cut(0, true, 5), 0);
        due("the last is the worst", town("house a 0 9 1;house b 0 9 1;quay b;stair a ground 0;stair a b 0;").worst(true, 0), 1);
        due("the last is the worst", town("house a 0 9 1;house b 0 9 1;quay b;stair a ground 0;stair a b 0;").worst(false, 0), 1);
    }

    private static void laws() {
        StiltTown town = town("house a 0 5 1;house b 0 5 1;house c 0 6 1;office o 5;office p 6;office q 4;in a o;in c p;");
        due("UNTRUE", town.law(3), 2);
        due("UNTRUE", town.law(0), 1);
        due("as high with less RANK: TURNED", town.law(1), 1);
        due("give", town.give(1, 2), true);
        due("still", town.law(1), 1);
        due("give", town.give(1, -1), true);
        due("give", town.give(0, -1), true);
        due("alike in RANK: not TURNED", town.law(1), 0);
        StiltTown down = town("house a 0 1 1;house b 0 2 1;house c 0 3 1;house d 0 3 1;office o 9;office p 8;office q 8;office r 7;in a o;in b p;in c q;in d r;");
        // a above all three by RANK, b above d, c above d; b and c are alike.
        due("each two once", down.law(1), 5);
        due("all are UNTRUE", down.law(0), 4);
        due("the first one has the less RANK", town("house a 0 5 1;house b 0 5 1;office o 5;in b o;").law(1), 1);
        due("the first one has the less RANK", town("house a 0 5 1;house b 0 6 1;office o 5;in b o;").law(1), 0);
        due("the last one has it", town("house a 0 6 1;house b 0 5 1;office o 5;in a o;").law(1), 0);
        StiltTown bad = town("house a 1 1 1;house b 2 1 1;house c 3 1 1;bad if x==1;bad if x==1;bad if x<2;bad if x==3 and 1==2 or x==3;");
        due("BAD once, by however many RULES", bad.law(2), 2);
        due("BAD", bad.law(4), 5);
        due("none", town("house a 1 1 1;falls if 1==1;").law(2), 0);
    }

    private static void jacks() {
        StiltTown town = town("wood 60 1;wood 39 1;wood 33 3;wood 1 99;");
        due("99 inches", town.jack(99, 0), 2);
        due("99 inches", town.jack(99, 10), 1);
        due("99 inches", town.jack(99, 11), 1);
        due("99 inches", town.jack(99, 12), 0);
        due("1 inch", town.jack(1, 13), 1);
        due("98 inches", town.jack(98, 0), 7);
        due("98 inches: the most of the first of alike many", town.jack(98, 10), 1);
        due("98 inches", town.jack(98, 12), 1);
        due("98 inches", town.jack(98, 13), 5);
        StiltTown alike = town("wood 4 2;wood 4 2;wood 8 0;wood 2 9;");
        int[] twelve = {2, 1, 0, 0};
        for (int i = 0; i < 4; i++) {
            due("of two told alike the first", alike.jack(12, 10 + i), twelve[i]);
        }
        int[] twenty = {2, 2, 0, 2};
        for (int i = 0; i < 4; i++) {
            due("all of both", alike.jack(20, 10 + i), twenty[i]);
        }
        due("all there is", alike.jack(34, 0), 13);
        due("more than there is", alike.jack(36, 0), -2);
        due("odd", alike.jack(9, 0), -2);
        // 6 6 are two pieces, 5 5 1 1 four: the fewest come ahead of the most of the first.
        StiltTown fewest = town("wood 5 9;wood 1 9;wood 6 9;");
        due("the fewest", fewest.jack(12, 0), 2);
        due("none of the first", fewest.jack(12, 10), 0);
        due("all pieces of one inch", town("wood 1 98;").jack(98, 0), 98);
        due("one too many", town("wood 1 98;").jack(99, 0), -2);
        due("eight kinds", town("wood 1 1;wood 2 1;wood 4 1;wood 8 1;wood 16 1;wood 32 1;wood 35 1;wood 60 0;").jack(98, 0), 7);
        due("by more inches than JACK", town("jack 1;wood 50 1;").jack(50, 0), 1);
    }

    private static void fortyWorks() {
        StiltTown town = town("house a 0 50 1;wood 1 99;crews 9;");
        for (int i = 0; i < 40; i++) {
            due("work " + i, town.work(i / 9, 0, 1), i);
        }
        due("work 40", town.work(99, 0, 1), -1);
        due("work 40", town.work(0, 0, -1), -1);
        due("count(7)", town.count(7), 40);
        due("judge()", town.judge(), 0);
        due("done()", town.done(), 40);
        due("HEIGHT", town.house(0, 1), 90);
        due("WOOD", town.wood(0), 59);
        due("numbered from 0 on again", town.work(0, 0, 1), 0);
        due("forget()", town.forget(), 1);
        due("forget()", town.forget(), 0);
        due("numbered from 0 on again", town.work(0, 0, 1), 0);
        due("judge()", town.judge(), 0);
        due("undo()", town.undo(), true);
        due("HEIGHT", town.house(0, 1), 50);
        due("WOOD", town.wood(0), 99);
        due("WORKS told stay", town.count(7), 1);
        // The last of forty is judged as well.
        StiltTown last = town("house a 0 40 1;crews 1;");
        for (int i = 0; i < 40; i++) {
            last.work(i, 0, i < 39 ? -1 : -2);
        }
        due("judge()", last.judge(), 393);
        due("done()", last.done(), -2);
    }

    private static int judge(String text, int... works) {
        StiltTown town = town(text);
        for (int i = 0; i < works.length; i += 3) {
            due("work " + i / 3, town.work(works[i], works[i + 1], works[i + 2]), i / 3);
        }
        return town.judge();
    }

    private static void judged() {
        String text = "house a 0 20 1;house b 0 20 1;quay a;stair a b 3;crews 2;jack 12;wood 1 12;wood 11 1;";
        due("no WORKS", judge(text), 0);
        due("as many as CREWS", judge(text, 0, 0, 1, 0, 0, 1), 0);
        due("one more", judge(text, 0, 0, 1, 0, 0, 1, 0, 0, 1), 21);
        due("one more, on the next NIGHT", judge(text, 0, 0, 1, 0, 0, 1, 1, 0, 1), 0);
        due("CREWS are counted by NIGHT", judge(text + "quay b;", 1, 0, 1, 0, 0, 1, 1, 0, 1, 0, 0, 1), 0);
        due("the third of NIGHT 1", judge(text, 1, 0, 1, 0, 0, 1, 1, 0, 1, 0, 0, 1, 1, 0, 1), 41);
        due("as many inches as JACK", judge(text + "quay b;", 0, 0, -12), 0);
        due("one inch more", judge(text + "quay b;", 0, 0, -13), 2);
        due("as many inches as JACK", judge(text + "quay b;", 0, 0, 12), 0);
        due("one inch more", judge(text + "quay b;", 0, 0, 13), 2);
        due("CREWS 9", judge(text + "crews 9;", 0, 0, 1, 0, 0, 1, 0, 0, 1, 0, 0, -1, 0, 0, 1, 0, 0, 1, 0, 0, -1, 0, 0, 1, 0, 0, -1), 0);
        due("CREWS 9, one more", judge(text + "crews 9;", 0, 0, 1, 0, 0, 1, 0, 0, 1, 0, 0, -1, 0, 0, 1, 0, 0, 1, 0, 0, -1, 0, 0, 1, 0, 0, -1, 0, 0, 1), 91);
        String free = "house a 0 20 1;house b 0 90 1;jack 99;wood 9 1;wood 10 1;wood 60 9;";
        due("down to 0", judge(free, 0, 0, -20), 0);
        due("below 0", judge(free, 0, 0, -21), 3);
        due("up to 99", judge(free, 0, 1, 9), 0);
        due("above 99", judge(free, 0, 1, 10), 3);
        due("up and down within one NIGHT", judge(free, 0, 1, 9, 0, 1, -9), 0);
        due("numbers within one NIGHT", judge(free, 0, 1, 9, 0, 1, 1), 13);
        // Reasons by their numbers, when more than one is so.
        String all = "house a 0 20 1;quay a;tide=15;crews 1;jack 10;";
        due("1 ahead of 2, 3 and 4", judge(all, 0, 0, -1, 0, 0, 99), 11);
        due("2 ahead of 3", judge(all, 0, 0, -21), 2);
        due("2 ahead of 3 and 4", judge(all, 0, 0, 80), 2);
        due("2 ahead of 4", judge(all, 0, 0, 11), 2);
        due("3 ahead of 4", judge(all + "house b 0 95 1;", 0, 1, 5), 3);
        due("4 ahead of 5", judge(all + "crews 2;", 0, 0, -6, 0, 0, 1), 14);
        due("5 at the end of a NIGHT", judge(all + "crews 2;", 0, 0, -6, 0, 0, -1), 15);
        due("5 ahead of what a later NIGHT has", judge(all + "crews 2;", 1, 0, 99, 0, 0, -6), 15);
        due("not 5 if it is so again at the end", judge(all + "crews 2;wood 6 1;", 0, 0, -6, 0, 0, 6), 0);
        due("as low as the TIDE", judge(all, 0, 0, -5), 0);
        due("NIGHT 99 behind NIGHT 0", judge(all, 99, 0, -6, 0, 0, 10), 14);
        due("NIGHT 99", judge(all, 99, 0, -6), 5);
        due("NIGHT 99 behind NIGHT 98", judge(all, 99, 0, -3, 98, 0, -3), 5);
        // HOUSES that become REACHED have to stay so from then on.
        String grows = "house a 0 20 1;house b 0 30 1;quay a;stair a b 5;jack 20;wood 5 9;";
        due("b is REACHED behind NIGHT 0 and not behind NIGHT 1", judge(grows, 0, 1, -5, 1, 1, 5), 15);
        due("b is not ahead of NIGHT 0", judge(grows, 0, 1, 5), 0);
    }

    private static void sawn() {
        StiltTown town = town("house a 0 99 1;wood 7 98;wood 3 0;wood 7 5;wood 60 0;jack 99;crews 9;");
        town.work(0, 0, -7);
        due("done()", town.done(), 0);
        due("99 pieces", town.wood(0), 99);
        town.work(0, 0, -7);
        due("done()", town.done(), 0);
        due("more is burnt", town.wood(0), 99);
        due("the second such gets none", town.wood(2), 5);
        town.work(0, 0, -60);
        town.work(0, 0, -4);
        due("done()", town.done(), 0);
        due("60 inches", town.wood(3), 1);
        due("no such length", town.wood(1), 0);
        due("HEIGHT", town.house(0, 1), 21);
        town.work(0, 0, 60);
        town.work(0, 0, -61);
        due("done()", town.done(), 1);
        due("61 inches give nothing", town.wood(3), 0);
        due("HEIGHT", town.house(0, 1), 20);
        // A piece is there for later WORKS of the same NIGHT, not for earlier ones.
        town.work(5, 0, -3);
        town.work(5, 0, 3);
        due("done()", town.done(), 1);
        town.work(5, 0, 3);
        town.work(5, 0, -3);
        due("judge()", town.judge(), 4);
        due("done()", town.done(), -2);
        due("WORKS stay", town.forget(), 2);
        // What is burnt is not there any more, though pieces are taken in between.
        town.work(0, 0, -7);
        town.work(0, 0, 14);
        town.work(0, 0, -7);
        due("done()", town.done(), 2);
        due("99 less 2 and 1 more", town.wood(0), 98);
    }

    private static void twentyLots() {
        for (int lots : new int[] {19, 20, 21, 41}) {
            StiltTown town = town("house a 0 60 1;wood 1 0;");
            due("done() without WORKS", town.done(), 0);
            for (int i = 1; i <= lots; i++) {
                town.work(0, 0, -1);
                due("done()", town.done(), 0);
                due("count(10)", town.count(10), Math.min(i, 20));
            }
            due("done() without WORKS", town.done(), 0);
            due("count(10)", town.count(10), Math.min(lots, 20));
            for (int i = 1; i <= Math.min(lots, 20); i++) {
                due("undo()", town.undo(), true);
                due("HEIGHT", town.house(0, 1), 60 - lots + i);
                due("WOOD", town.wood(0), lots - i);
                due("count(10)", town.count(10), Math.min(lots, 20) - i);
            }
            due("undo()", town.undo(), false);
            due("HEIGHT", town.house(0, 1), Math.max(40 + 20 - lots + Math.min(lots, 20), 60 - lots));
            town.work(0, 0, -9);
            due("done() goes on", town.done(), 0);
            due("count(10)", town.count(10), 1);
        }
        // Undone and done again, round the oldest ones.
        StiltTown town = town("house a 0 60 1;");
        for (int i = 0; i < 25; i++) {
            town.work(0, 0, -1);
            town.done();
        }
        for (int i = 0; i < 10; i++) {
            due("undo()", town.undo(), true);
        }
        due("HEIGHT", town.house(0, 1), 45);
        for (int i = 0; i < 12; i++) {
            town.work(0, 0, -2);
            town.done();
        }
        due("count(10)", town.count(10), 20);
        for (int i = 0; i < 20; i++) {
            due("undo()", town.undo(), true);
        }
        due("HEIGHT", town.house(0, 1), 53);
        due("undo()", town.undo(), false);
        // Lots have all that is done together: HEIGHTS and WOOD, but no OFFICES, MONTH, LOGS.
        StiltTown other = town(THREE + "office o 7;wood 5 2;");
        other.work(0, 0, 5);
        other.work(1, 2, -5);
        due("done()", other.done(), 1);
        other.give(1, 0);
        other.months(5);
        other.vote(0, 0, 0);
        other.year(5);
        due("undo()", other.undo(), true);
        due("HEIGHT", other.house(0, 1), 20);
        due("HEIGHT", other.house(2, 1), 40);
        due("WOOD", other.wood(0), 2);
        due("OFFICE", other.holder(0), 1);
        due("MONTH", other.count(9), 5);
        due("LOGS", other.count(8), 1);
        due("YEARS", other.count(13), 1);
    }

    private static String untrue(int many, int crews) {
        StringBuilder text = new StringBuilder("crews " + crews + ";");
        for (int i = 0; i < many; i++) {
            text.append("house ").append(name('h', i)).append(" 0 1 1;");
        }
        return text.toString();
    }

    private static void nights() {
        for (int many = 0; many <= 16; many++) {
            for (int crews = 1; crews <= 9; crews++) {
                StiltTown town = town(untrue(many, crews));
                int bound = (many + crews - 1) / crews;
                // As few as leave what the other nights can bring: the rest by CREWS, or all of one night.
                int first = many == 0 ? 0 : many - (bound - 1) * crews;
                due("nights(2) of " + many + " by " + crews, town.nights(2), bound);
                due("nights(0) of " + many + " by " + crews, town.nights(0), many > 8 ? -2 : bound);
                due("nights(1) of " + many + " by " + crews, town.nights(1), many > 8 ? -2 : (1 << first) - 1);
            }
        }
        // Eight UNTRUE ones of nine, the true one between.
        StiltTown eight = town(untrue(4, 8) + "house t 0 0 1;house z 0 1 1;house y 0 1 1;house w 0 1 1;house v 0 1 1;");
        due("eight of nine", eight.nights(0), 1);
        due("eight of nine", eight.nights(1), 0x1ef);
        due("BOUND", eight.nights(2), 1);
        // a and b have to go together, so that the first night has two though one is left for the second.
        String pair = "house a 0 10 1;house b 0 10 1;house c 0 7 1;office o 20;office p 20;in a o;in b p;quay a;stair a b 3;crews 2;";
        StiltTown town = town(pair);
        due("two nights", town.nights(0), 2);
        due("the fewest first", town.nights(1), 4);
        due("what JACK and WOOD there is does not matter", town("jack 1;" + pair).nights(0), 2);
        // HOUR 12 counts alone, and only who was REACHED ahead of all.
        due("no door at HOUR 12 alone", town(pair + "crews 1;tide=99-(hour-12)*(hour-12)*99;").nights(0), 3);
        due("a door at HOUR 12 alone", town(pair + "crews 1;tide=(hour-12)*(hour-12)*99;").nights(0), -2);
        due("it can't be", town(pair + "crews 1;").nights(0), -2);
        due("it can't be: FIRST NIGHT", town(pair + "crews 1;").nights(1), -2);
        due("it can't be: BOUND", town(pair + "crews 1;").nights(2), 3);
        // A HOUSE may be REACHED in between and not so in the end.
        StiltTown between = town("house a 0 0 1;house b 0 9 1;house c 0 5 1;office o 1;in c o;quay a;stair b a 5;stair b c 3;due=(rank/1)*9+(1-rank)*0;crews 1;");
        due("two nights", between.nights(0), 2);
        due("the least bits", between.nights(1), 2);
    }

    private static void looks() {
        String ends = "house a 0 50 1;house b 10 40 1;";
        due("higher", town(ends).looks(0, 1), 1);
        due("lower", town(ends).looks(1, 0), 0);
        due("as high", town("house a 0 50 1;house b 10 50 1;").looks(0, 1), 0);
        due("x alike", town("house a 9 50 1;house b 9 40 1;").looks(0, 1), 0);
        due("one below the line", town(ends + "house c 5 44 1;").looks(0, 1), 1);
        due("one on the line", town(ends + "house c 5 45 1;").looks(0, 1), 0);
        due("one above the line", town(ends + "house c 5 46 1;").looks(0, 1), 0);
        due("one at the x of the one", town(ends + "house c 0 99 1;").looks(0, 1), 1);
        due("one at the x of the other", town(ends + "house c 10 99 1;").looks(0, 1), 1);
        due("one beyond", town(ends + "house c 11 99 1;").looks(0, 1), 1);
        due("one an x ahead of the other, on the line", town(ends + "house c 9 41 1;").looks(0, 1), 0);
        due("one an x ahead of the other", town(ends + "house c 9 40 1;").looks(0, 1), 1);
        due("the line is not rounded", town("house a 0 2 1;house b 3 1 1;house c 1 2 1;").looks(0, 1), 0);
        due("the line is not rounded", town("house a 0 2 1;house b 3 1 1;house c 1 1 1;").looks(0, 1), 1);
        due("the first HOUSE of all is between", town("house c 5 45 1;house a 0 50 1;house b 10 40 1;").looks(1, 2), 0);
        due("as far as can be", town("house a 40 99 1;house b 0 0 1;house c 20 49 1;").looks(0, 1), 1);
        due("as far as can be", town("house a 40 99 1;house b 0 0 1;house c 20 50 1;").looks(0, 1), 0);
        String one = "house a 20 30 1;";
        due("alone", town(one).light(0), 3);
        due("west, as many as far", town(one + "house b 15 35 1;").light(0), 2);
        due("west, one fewer", town(one + "house b 15 34 1;").light(0), 3);
        due("east, as many as far", town(one + "house b 25 35 1;").light(0), 1);
        due("east, one fewer", town(one + "house b 25 34 1;").light(0), 3);
        due("east, more", town(one + "house b 21 99 1;").light(0), 1);
        due("both", town(one + "house b 25 35 1;house c 0 50 1;").light(0), 0);
        due("beside, however high", town(one + "house b 20 99 1;").light(0), 3);
        due("lower ones", town(one + "house b 19 30 1;house c 21 30 1;").light(0), 3);
        due("from afar", town("house a 0 0 1;house b 40 40 1;").light(0), 1);
        due("from afar, one fewer", town("house a 0 0 1;house b 40 39 1;").light(0), 3);
    }

    private static void chains() {
        // Thirteen HOUSES in a line by twelve STAIRS: one falls a round.
        StringBuilder line = new StringBuilder("falls if gone==1;");
        StringBuilder star = new StringBuilder("falls if load==1;falls if gone==12;");
        for (int i = 0; i < 13; i++) {
            line.append("house ").append(name('h', i)).append(" 0 1 1;");
            star.append("house ").append(name('h', i)).append(i == 0 ? " 0 1 2;" : " 0 1 1;");
            if (i > 0) {
                line.append("stair ").append(name('h', i - 1)).append(' ').append(name('h', i)).append(" 0;");
                star.append("stair ").append(name('h', i)).append(' ').append(name('h', 0)).append(" 0;");
            }
        }
        StiltTown town = town(line.toString());
        due("all fall", town.chain(0, 0, 0), 13);
        due("in the 12th ROUND at last", town.chain(0, 0, 1), 12);
        due("that one", town.chain(0, 0, 22), 12);
        due("ROUND 0", town.chain(0, 0, 10), 0);
        due("from the middle", town.chain(6, 0, 1), 6);
        due("all alike: the first", town.dread(0), 0);
        StiltTown hub = town(star + "house z 0 1 3;house y 0 1 3;");
        due("from aside", hub.chain(13, 0, 0), 14);
        due("leaves in ROUND 1", hub.chain(13, 0, 22), 1);
        due("the hub with twelve gone", hub.chain(13, 0, 10), 2);
        due("one stands", hub.chain(13, 0, 24), -2);
        due("one more by the one aside", hub.dread(0), 13);
        due("the leaf that rots is gone, too", hub.chain(1, 0, 1), 2);
        // STAIRS that do not MEET, two of a kind and one to the ground.
        String two = "house a 0 0 1;house b 0 99 1;stair a b 0;stair b a 0;stair b ground 0;";
        due("both HOUSES are one another's once", town(two + "falls if gone==1;").chain(0, 0, 0), 2);
        due("not twice", town(two + "falls if gone==2;").chain(0, 0, 0), 1);
        due("the ground never falls", town(two + "falls if 1<gone;").chain(0, 0, 0), 1);
        // Ahead of that round: who falls in it is not gone yet.
        StiltTown rounds = town("house a 0 1 1;house b 0 1 2;house c 0 1 3;stair a b 0;stair b c 0;stair a c 0;falls if load==2 and gone==1;falls if load==3 and gone==2;");
        due("b", rounds.chain(0, 0, 11), 1);
        due("c behind b", rounds.chain(0, 0, 12), 2);
        due("last", rounds.chain(0, 0, 1), 2);
        due("from b none", rounds.chain(1, 0, 0), 1);
        due("the last ROUND of one alone", rounds.chain(1, 0, 1), 0);
        due("no falls RULE", town("house a 0 1 1;house b 0 1 1;bad if 1==1;").chain(0, 99, 0), 1);
        StiltTown wind = town("house a 0 1 1;house b 0 1 1;falls if wind==99 or wind==0 and month==11;sway=wind+month;");
        due("WIND 98", wind.chain(0, 98, 0), 1);
        due("WIND 99", wind.chain(0, 99, 0), 2);
        due("WIND 0", wind.chain(0, 0, 0), 1);
        wind.months(11);
        due("WIND 0 in MONTH 11", wind.chain(0, 0, 0), 2);
        due("sway at WIND 88", wind.sway(0, 88), 99);
        due("sway at WIND 87", wind.sway(0, 87), 98);
        due("sway at WIND 99", wind.sway(0, 99), 99);
        // What one chain was like is not kept for the next one.
        StiltTown next = town("house a 0 1 1;house b 0 1 2;falls if 50<wind;falls if month==3;");
        due("a stands", next.chain(1, 50, 10), -2);
        due("a falls at first", next.chain(0, 50, 10), 0);
        due("a stands", next.chain(1, 50, 10), -2);
        due("a falls by the WIND", next.chain(1, 51, 10), 1);
        due("a stands", next.chain(1, 50, 10), -2);
        due("b stands", next.chain(0, 50, 11), -2);
        due("b falls by the WIND", next.chain(0, 51, 11), 1);
        due("none", next.dread(50), 0);
        next.months(3);
        due("a falls by the MONTH", next.chain(1, 50, 10), 1);
        due("the last HOUSE is the worst", town("house a 0 1 1;house b 0 1 2;stair a b 0;falls if gone==1 and load==1;").dread(0), 1);
    }

    private static void twelveYears() {
        StiltTown town = new StiltTown();
        for (int i = 1; i <= 12; i++) {
            due("year " + i, town.year(i), i);
        }
        due("year 13", town.year(13), -1);
        due("year 13", town.year(0), -1);
        due("count(13)", town.count(13), 12);
        due("the 12th", town.postAt(0, 0, 1, 1, 1, 11), 12);
        due("the 13th", town.postAt(0, 0, 1, 1, 1, 12), -1);
        due("clear()", town.clear(), 12);
        due("clear()", town.clear(), 0);
        due("count(13)", town.count(13), 0);
        due("year 1", town.year(99), 1);
        due("year(100)", town.year(100), -1);
        due("year(-1)", town.year(-1), -1);
        due("count(13)", town.count(13), 1);
        due("hold", town.hold(0), true);
        due("year 2", town.year(98), 2);
        due("restore", town.restore(0), true);
        due("SLOTS do not hold it", town.count(13), 2);
        due("a text with a FAULT leaves it", Tape.read(town, "?"), 1);
        due("count(13)", town.count(13), 2);
        due("a text empties it", Tape.read(town, " "), 0);
        due("count(13)", town.count(13), 0);
        due("clear()", town.clear(), 0);
    }

    private static int[] row(StiltTown town, int h0, int slack, int u, int s, int c) {
        int[] heights = new int[town.count(13)];
        for (int i = 0; i < heights.length; i++) {
            heights[i] = town.postAt(h0, slack, u, s, c, i);
        }
        return heights;
    }

    private static void posts(StiltTown town, int[] p, int cost, int... heights) {
        due("posts", town.posts(p[0], p[1], p[2], p[3], p[4]), cost);
        int[] got = row(town, p[0], p[1], p[2], p[3], p[4]);
        due("so many YEARS", got.length, heights.length);
        for (int i = 0; i < heights.length && i < got.length; i++) {
            due("height of YEAR " + i, got[i], heights[i]);
        }
    }

    private static void posts() {
        StiltTown dear = new StiltTown();
        int[] zigzag = new int[12];
        for (int i = 0; i < 12; i++) {
            zigzag[i] = i % 2 == 0 ? 99 : 0;
            dear.year(zigzag[i]);
        }
        posts(dear, new int[] {0, 0, 99, 99, 99}, 12 * (99 * 99 + 99), zigzag);
        posts(dear, new int[] {0, 99, 99, 99, 99}, 99 * 99 + 99, 99, 99, 99, 99, 99, 99, 99, 99, 99, 99, 99, 99);
        posts(dear, new int[] {99, 99, 0, 0, 0}, 0, zigzag);
        posts(dear, new int[] {99, 98, 1, 1, 0}, 11, 99, 98, 99, 98, 99, 98, 99, 98, 99, 98, 99, 98);
        StiltTown one = new StiltTown();
        one.year(50);
        posts(one, new int[] {50, 0, 9, 9, 9}, 0, 50);
        posts(one, new int[] {49, 0, 9, 7, 5}, 14, 50);
        posts(one, new int[] {51, 0, 9, 7, 5}, 12, 50);
        posts(one, new int[] {51, 1, 9, 7, 5}, 0, 51);
        posts(one, new int[] {53, 2, 9, 7, 5}, 12, 52);
        posts(one, new int[] {99, 49, 9, 7, 5}, 0, 99);
        posts(one, new int[] {99, 48, 9, 7, 5}, 12, 98);
        posts(one, new int[] {0, 99, 0, 9, 0}, 0, 50);
        posts(one, new int[] {99, 99, 9, 0, 0}, 0, 50);
        posts(one, new int[] {99, 99, 9, 0, 1}, 0, 99);
        // d + slack above 99 is 99.
        StiltTown top = new StiltTown();
        top.year(98);
        top.year(0);
        posts(top, new int[] {0, 99, 1, 1, 0}, 98, 98, 98);
        posts(top, new int[] {99, 99, 1, 1, 1}, 0, 99, 99);
        posts(top, new int[] {99, 1, 1, 0, 0}, 0, 98, 0);
        // Of alike ones the least height of the first YEAR, then of the second.
        StiltTown alike = new StiltTown();
        alike.year(10);
        alike.year(12);
        posts(alike, new int[] {10, 5, 1, 1, 0}, 2, 10, 12);
        posts(alike, new int[] {10, 5, 1, 1, 1}, 3, 10, 12);
        posts(alike, new int[] {15, 9, 1, 0, 0}, 0, 12, 12);
        posts(alike, new int[] {15, 9, 0, 0, 1}, 0, 15, 15);
        posts(alike, new int[] {9, 9, 0, 0, 1}, 1, 12, 12);
        posts(alike, new int[] {9, 1, 0, 0, 1}, 2, 10, 12);
    }

    private static void sixtyLogs() {
        StiltTown town = town(THREE + "office o 4;");
        for (int i = 0; i < 60; i++) {
            int kind = i % 3;
            int number = kind == 0 ? town.vote(i % 2, 0, 2) : kind == 1 ? town.mark(1, i, i) : town.annul(i - 2);
            due("log " + i, number, i);
        }
        due("vote 60", town.vote(0, 0, 0), -1);
        due("mark 60", town.mark(0, 0, 0), -1);
        due("annul 60", town.annul(58), -1);
        due("count(8)", town.count(8), 60);
        due("all VOTES are void", town.winner(0, 60), -2);
        due("the last one ahead of its VOID", town.winner(0, 58), 2);
        due("votes", town.votes(0, 2, 58), 1);
        due("the last MARK", town.ends(1, 58, 1, 60), 5858);
        due("the 60th log is a VOID", town.votes(0, 2, 59), 1);
        due("none beyond", town.winner(0, 61), -1);
        // The last one that can be is a VOTE, a MARK, a VOID.
        for (int kind = 0; kind < 3; kind++) {
            StiltTown last = town(THREE + "office o 4;");
            for (int i = 0; i < 59; i++) {
                last.vote(0, 0, 1);
            }
            due("the 60th", kind == 0 ? last.vote(0, 0, 2) : kind == 1 ? last.mark(0, 9, 9) : last.annul(58), 59);
            due("winner", last.winner(0, 60), kind == 0 ? 2 : 1);
            due("ends", last.ends(0, 9, 0, 60), kind == 1 ? 909 : 99);
            due("no 61st", last.mark(0, 9, 9), -1);
        }
    }

    private static void votes() {
        StiltTown town = town("house a 0 5 1;house b 0 9 1;house c 0 9 1;office o 1;office p 1;");
        due("known by 0", town.winner(0, 0), -2);
        town.vote(0, 0, 0);
        due("for itself", town.winner(0, 1), 0);
        town.vote(0, 0, 1);
        due("the last KNOWN counts", town.votes(0, 0, 2), 0);
        due("the last KNOWN counts", town.votes(0, 1, 2), 1);
        due("the last KNOWN by 1", town.votes(0, 0, 1), 1);
        due("another OFFICE", town.winner(1, 2), -2);
        due("annul the last", town.annul(1), 2);
        due("the one ahead counts again", town.votes(0, 0, 3), 1);
        due("not for those who do not KNOW the VOID", town.votes(0, 0, 2), 0);
        due("annul the first", town.annul(0), 3);
        due("none", town.winner(0, 4), -2);
        due("one", town.winner(0, 3), 0);
        due("a VOID is void for none", town.annul(2), -1);
        due("itself", town.annul(4), -1);
        due("a void one again", town.annul(0), 4);
        due("none", town.votes(0, 0, 5), 0);
        StiltTown alike = town("house a 0 5 1;house b 0 9 1;house c 0 9 1;house d 0 4 1;office o 1;");
        alike.vote(0, 0, 0);
        due("one VOTE", alike.winner(0, 1), 0);
        alike.vote(1, 0, 2);
        due("the higher one", alike.winner(0, 2), 2);
        alike.vote(2, 0, 1);
        due("the first as high", alike.winner(0, 3), 1);
        alike.vote(3, 0, 0);
        due("the most", alike.winner(0, 4), 0);
        alike.vote(0, 0, 3);
        due("the first as high", alike.winner(0, 5), 1);
    }

    private static void ends() {
        StiltTown town = town(THREE);
        due("no MARKS", town.ends(0, 0, 0, 0), 99);
        due("no MARKS", town.ends(2, 99, 99, 0), 99);
        town.mark(0, 50, 40);
        due("at it, r 0", town.ends(0, 50, 0, 1), 4040);
        due("r 0 far off", town.ends(0, 0, 0, 1), 4040);
        due("r 0 far off", town.ends(0, 99, 0, 1), 4040);
        due("r 1", town.ends(0, 49, 1, 1), 3941);
        due("r 1", town.ends(0, 51, 1, 1), 3941);
        due("down to 0", town.ends(0, 90, 1, 1), 80);
        due("not below 0", town.ends(0, 91, 1, 1), 81);
        due("up to 99", town.ends(0, 99, 1, 1), 89);
        due("not above 99", town.ends(0, 0, 2, 1), 99);
        due("r 99", town.ends(0, 51, 99, 1), 99);
        due("another HOUSE", town.ends(1, 50, 0, 1), 99);
        town.mark(0, 50, 40);
        due("told twice", town.ends(0, 50, 0, 2), 4040);
        town.mark(0, 60, 50);
        due("just as steep as can be", town.ends(0, 55, 1, 3), 4545);
        due("too steep", town.ends(0, 55, 0, 3), -2);
        due("too steep, ahead of both", town.ends(0, 0, 0, 3), -2);
        due("less steep", town.ends(0, 55, 2, 3), 4050);
        due("behind both", town.ends(0, 99, 1, 3), 1189);
        town.mark(0, 50, 41);
        due("two heights in one YEAR", town.ends(0, 50, 99, 4), -2);
        due("in any YEAR", town.ends(0, 0, 99, 4), -2);
        due("not KNOWN by 3", town.ends(0, 50, 99, 3), 4040);
        town.annul(3);
        due("void", town.ends(0, 50, 99, 5), 4040);
        StiltTown edge = town(THREE);
        edge.mark(2, 0, 0);
        edge.mark(2, 99, 99);
        due("from YEAR 0 to YEAR 99", edge.ends(2, 50, 1, 2), 5050);
        due("at YEAR 0", edge.ends(2, 0, 1, 2), 0);
        due("at YEAR 99", edge.ends(2, 99, 1, 2), 9999);
        due("r 0", edge.ends(2, 0, 0, 2), -2);
        due("r 2", edge.ends(2, 50, 2, 2), 199);
        due("r 2", edge.ends(2, 49, 2, 2), 98);
    }

    private static void years() {
        StiltTown town = town("house a 0 0 1;office o 99;jack 99;");
        due("n 1: as far as JACK", town.years(0, 1), 99);
        due("DUE", town.house(0, 1), 99);
        due("n 40", town.years(0, 40), 0);
        StiltTown slow = town("house a 0 0 1;office o 99;jack 2;crews 1;");
        due("n 40: 2 inches each", slow.years(9, 40), 80);
        due("n 0", slow.years(9, 0), -1);
        due("n 41", slow.years(9, 41), -1);
        due("HEIGHT stays", slow.house(0, 1), 80);
        due("n 10: 19 left", slow.years(9, 10), 19);
        // The inch that is left is an inch, and the way down is as long.
        StiltTown down = town("house a 0 50 1;house b 0 50 1;office o 0;due=39;jack 10;crews 9;");
        due("10 each", down.years(-1, 1), 20);
        due("1 each", down.years(-1, 1), 2);
        due("none", down.years(-1, 1), 0);
        // CREWS of HOUSES in a YEAR, by numbers; those that are true are not counted.
        StiltTown crews = town("house a 0 39 1;house b 0 50 1;house c 0 30 1;house d 0 50 1;office o 0;due=39;jack 99;crews 2;");
        due("b and c", crews.years(3, 1), 20);
        due("b", crews.house(1, 1), 39);
        due("c", crews.house(2, 1), 39);
        due("d", crews.house(3, 1), 50);
        due("d in the next", crews.years(3, 1), 11);
        for (String none : new String[] {"house a 0 50 1;jack 99;", "office o 50;"}) {
            StiltTown bare = town(none);
            bare.months(5);
            due("only MONTHS go by", bare.years(1, 40), 0);
            due("MONTH", bare.count(9), 5);
            due("HEIGHT", bare.house(0, 1), bare.count(0) == 0 ? -1 : 50);
            due("OFFICE", bare.holder(0), bare.count(1) == 0 ? -1 : -2);
        }
        StiltTown done = town("house a 0 50 1;house b 0 50 1;office o 50;crews 1;jack 1;wood 1 9;");
        done.work(0, 0, 1);
        due("done()", done.done(), 1);
        done.work(0, 0, 5);
        due("nothing with n 0", done.years(1, 0), -1);
        due("count(10)", done.count(10), 1);
        done.years(1, 1);
        due("none is left to undo", done.count(10), 0);
        due("undo()", done.undo(), false);
        due("WORKS told stay", done.count(7), 1);
        due("WOOD does not matter", done.wood(0), 8);
    }

    /** LOT with 64 bits, of which the lower 32 are kept by hand. */
    private static int lot(int n, int seed, int which) {
        long low = 0xffffffffL;
        long h = seed & low;
        for (long it : new long[] {18, which}) {
            h = ((h ^ it) * 1103515245L + 12345L) & low;
            h = h ^ h / 32768;
        }
        return (int) (h / 2 % n);
    }

    private static void lots() {
        StringBuilder text = new StringBuilder();
        for (int i = 0; i < 16; i++) {
            text.append("house ").append(name('h', i)).append(" 0 0 1;");
        }
        for (int i = 0; i < 12; i++) {
            text.append("office ").append(name('o', i)).append(" 0;in ").append(name('h', i)).append(' ').append(name('o', i)).append(';');
        }
        for (int seed : new int[] {0, 1, -1, 18, 65536, LEAST, MOST, 1103515245, -1103515245, 20261119}) {
            for (int n : new int[] {1, 2, 39, 40}) {
                int[] holders = new int[12];
                for (int o = 0; o < 12; o++) {
                    holders[o] = o;
                }
                for (int i = 0; i < n; i++) {
                    leave(holders, lot(16, seed, 10 * i));
                    int office = lot(12, seed, 10 * i + 1);
                    int house = lot(16, seed, 10 * i + 2);
                    if (holders[office] == -2) {
                        leave(holders, house);
                        holders[office] = house;
                    }
                }
                StiltTown town = town(text.toString());
                due("years(" + seed + ", " + n + ")", town.years(seed, n), 0);
                for (int o = 0; o < 12; o++) {
                    due("holder(" + o + ") behind years(" + seed + ", " + n + ")", town.holder(o), holders[o]);
                }
            }
        }
    }

    private static void leave(int[] holders, int house) {
        for (int o = 0; o < holders.length; o++) {
            if (holders[o] == house) {
                holders[o] = -2;
            }
        }
    }

    private static void slots() {
        StiltTown town = town(THREE + "office o 4;wood 5 5;");
        for (int i = 0; i < 40; i++) {
            town.work(99 - i, i % 3, i % 2 == 0 ? -5 : 5);
        }
        for (int i = 0; i < 60; i++) {
            town.mark(0, 9, 9);
        }
        due("hold(1)", town.hold(1), true);
        due("forget()", town.forget(), 40);
        town.work(0, 0, -20);
        due("done()", town.done(), -2);
        due("restore(1)", town.restore(1), true);
        due("forty WORKS", town.count(7), 40);
        due("sixty LOGS", town.count(8), 60);
        due("work 40", town.work(0, 0, 1), -1);
        due("mark 60", town.mark(0, 0, 0), -1);
        due("the first of them is the last NIGHT's", town.judge(), 0);
        due("done()", town.done(), 20);
        due("count(10)", town.count(10), 1);
        due("restore(0)", town.restore(0), false);
        due("what is refused leaves what can be undone", town.count(10), 1);
        due("restore(1)", town.restore(1), true);
        due("nothing to undo then", town.count(10), 0);
        due("undo()", town.undo(), false);
        due("it stays there", town.count(7), 40);
        town.months(3);
        due("held once more", town.hold(1), true);
        due("count(12)", town.count(12), 1);
        town.months(3);
        town.restore(1);
        due("in place of what was held", town.count(9), 3);
        due("the other is of its own", town.hold(0), true);
        town.months(4);
        town.hold(0);
        due("restore(1)", town.restore(1), true);
        due("MONTH", town.count(9), 3);
        due("restore(0)", town.restore(0), true);
        due("MONTH", town.count(9), 7);
        due("a text with a FAULT leaves them", Tape.read(town, "jack 0;"), 5);
        due("count(12)", town.count(12), 2);
        due("a text empties them", Tape.read(town, THREE), 0);
        due("count(12)", town.count(12), 0);
        due("restore(0)", town.restore(0), false);
        due("restore(1)", town.restore(1), false);
        // NIGHTS of WORKS are held with them.
        StiltTown held = town("house a 0 9 1;crews 1;");
        held.work(4, 0, -1);
        held.work(5, 0, -2);
        held.work(5, 0, -3);
        due("hold(0)", held.hold(0), true);
        held.forget();
        held.work(8, 0, -1);
        held.work(8, 0, -1);
        held.work(9, 0, -1);
        due("the second of NIGHT 8", held.judge(), 11);
        due("restore(0)", held.restore(0), true);
        due("the second of NIGHT 5", held.judge(), 21);
        // An empty town can be held as well.
        StiltTown none = new StiltTown();
        due("hold(0)", none.hold(0), true);
        none.months(5);
        due("restore(0)", none.restore(0), true);
        due("MONTH", none.count(9), 0);
    }
}
