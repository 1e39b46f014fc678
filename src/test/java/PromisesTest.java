/** Each promise of the document with answers worked out by hand. */
final class PromisesTest extends Answers {
    private PromisesTest() {
    }

    public static void main(String[] args) {
        promise = "1 new"; newObject();
        promise = "2, 3 feed, back"; tape();
        promise = "4, 5 read, place: syntax"; syntax();
        promise = "4, 5 read, place: room"; room();
        promise = "4, 5 read, place: meaning"; meaning();
        promise = "4, 5 read, place: the first fault"; firstFault();
        promise = "4 read in place of the one ahead"; readAgain();
        promise = "VARS"; vars();
        promise = "RULES"; rules();
        promise = "6, 7, 8 house, give, holder"; offices();
        promise = "9, 10, 11 months, tide, wet"; tides();
        promise = "12, 13, 14 reached, hours, meets"; doors();
        promise = "15, 16 cut, worst"; cuts();
        promise = "17 law"; laws();
        promise = "18, 19 wood, jack"; woods();
        promise = "20, 21, 22 work, forget, judge"; works();
        promise = "23, 24 done, undo"; lots();
        promise = "25 nights"; nights();
        promise = "26, 27 looks, light"; looks();
        promise = "28, 29, 30 sway, chain, dread"; chains();
        promise = "31, 32, 33, 34 year, clear, posts, postAt"; posts();
        promise = "35, 37, 38, 39 vote, annul, votes, winner"; votes();
        promise = "36, 37, 40 mark, annul, ends"; marks();
        promise = "41 years"; years();
        promise = "42, 43 hold, restore"; slots();
        promise = "44 count"; counts();
        end();
    }

    private static void newObject() {
        StiltTown town = new StiltTown();
        due("NONE", StiltTown.NONE, -1);
        for (int what = 0; what < 16; what++) {
            due("count(" + what + ")", town.count(what), what == 5 ? 2 : what == 6 ? 10 : 0);
        }
        due("place()", town.place(), -1);
        due("house(0, 0)", town.house(0, 0), -1);
        due("give(0, -1)", town.give(0, -1), false);
        due("undo()", town.undo(), false);
        due("restore(0)", town.restore(0), false);
        due("worst(true, 0)", town.worst(true, 0), -2);
        due("dread(0)", town.dread(0), -2);
        due("reached(12)", town.reached(12), 0);
        due("winner(0, 0)", town.winner(0, 0), -1);
        due("posts(0, 0, 0, 0, 0)", town.posts(0, 0, 0, 0, 0), 0);
    }

    private static void tape() {
        StiltTown town = new StiltTown();
        due("back(0)", town.back(0), 0);
        due("back(1)", town.back(1), -1);
        for (int i = 1; i <= 100; i++) {
            due("feed " + i, town.feed(0, 0, 0, 0, 0), 20 * i);
        }
        due("feed 101", town.feed(0, 0, 0, 0, 0), -1);
        due("count(11)", town.count(11), 2000);
        due("back(-1)", town.back(-1), -1);
        due("back(least)", town.back(Integer.MIN_VALUE), -1);
        due("back(2001)", town.back(2001), -1);
        due("back(19)", town.back(19), 1981);
        due("feed beyond", town.feed(0, 0, 0, 0, 0), -1);
        due("count(11)", town.count(11), 1981);
        due("back(1)", town.back(1), 1980);
        due("feed up to 2000", town.feed(0, 0, 0, 0, 0), 2000);
        due("back(2000)", town.back(2000), 0);
        // "crews 7;" and "jack 8; " with the highest byte first, then four blanks.
        due("feed crews", town.feed(0x63726577, 0x7320373b, 0x6a61636b, 0x20383b20, 0x20202020), 20);
        due("read()", town.read(), 0);
        due("count(11)", town.count(11), 0);
        due("count(5)", town.count(5), 7);
        due("count(6)", town.count(6), 8);
    }

    private static void syntax() {
        fault("", 0, -1);
        fault(" \t\n\r", 0, -1);
        fault("house a 1 2 3", 1, 13);
        fault("house a 1 2 3   ", 1, 16);
        fault("house a 1 2 3;;", 1, 14);
        fault("house x 1 2 3;", 1, 6);
        fault("house ground 1 2 3;", 1, 6);
        fault("house abcdefgh 1 2 3;", 0, -1);
        fault("house abcdefghi 1 2 3;", 1, 6);
        fault("house A 1 2 3;", 1, 6);
        fault("house a 12345 2 3;", 1, 8);
        fault("house a 0001 0002 0003;", 0, -1);
        fault("housea 1 2 3;", 1, 0);
        fault("house\fa 1 2 3;", 1, 5);
        fault("house a1 2 3;", 0, -1);
        fault("house a 1 2 3a;", 1, 13);
        fault("house a -1 2 3;", 1, 8);
        fault("house a 1 2;", 1, 11);
        fault("office a;", 1, 8);
        fault("in a;", 1, 4);
        fault("stair a 3;", 1, 8);
        fault("stair ground a 3;", 1, 6);
        fault("quay ;", 1, 5);
        fault("wood 3;", 1, 6);
        fault("crews;", 1, 5);
        fault("jack jack;", 1, 5);
        fault("tide == 3;", 1, 5);
        fault("tide === 3;", 1, 5);
        fault("tide = ;", 1, 7);
        fault("tide = 3 4;", 1, 9);
        fault("tide = -3;", 1, 7);
        fault("tide = (3;", 1, 9);
        fault("tide = 3);", 1, 8);
        fault("tide = ();", 1, 8);
        fault("tide = 3 + ;", 1, 11);
        fault("tide = 3 < 4;", 1, 9);
        fault("tide = a;", 1, 7);
        fault("tide = not 3;", 1, 7);
        fault("tide = month + hour*(wind/gone)-sway-height-rank-load-x;", 0, -1);
        fault("falls 1 < 2;", 1, 6);
        fault("falls if;", 1, 8);
        fault("falls if 1;", 1, 10);
        fault("falls if 1 = 2;", 1, 11);
        fault("falls if 1 < 2 < 3;", 1, 15);
        fault("falls if (1 < 2);", 1, 12);
        fault("falls if (1) < 2;", 0, -1);
        fault("falls if not (not 1 < 2);", 1, 14);
        fault("falls if not not 1 < 2;", 0, -1);
        fault("falls if 1 < not 2;", 1, 13);
        fault("falls if 1 and 2;", 1, 11);
        fault("falls if 1 < 2 and;", 1, 18);
        fault("falls if 1 < 2 and or 1 < 2;", 1, 19);
        fault("falls if 1 < 2 or not 3 <= 4 and 5 != 6;", 0, -1);
        fault("falls if 1 ! 2;", 1, 11);
        fault("falls if 1 > 2;", 1, 11);
        fault("bad if 1 <=2 or 1<= 2 or 1!=2 or 1 ==2;", 0, -1);
        fault("bad if 1 < = 2;", 1, 11);
        fault("bad if 1 <== 2;", 1, 11);
        fault("rain;", 1, 0);
        fault("if;", 1, 0);
        fault(";", 1, 0);
        fault("\u00e9", 1, 0);
        fault("jack 3;\u0000", 1, 7);
    }

    private static String houses(int many) {
        StringBuilder text = new StringBuilder();
        for (int i = 0; i < many; i++) {
            text.append("house ").append((char) ('a' + i)).append(i == 23 ? "y" : "h").append(" 1 2 3;");
        }
        return text.toString();
    }

    private static void room() {
        fault(houses(16), 0, -1);
        fault(houses(17), 2, 16 * 15);
        fault(houses(16) + "house", 2, 16 * 15);
        StringBuilder offices = new StringBuilder();
        for (int i = 0; i < 12; i++) {
            offices.append("office ").append((char) ('a' + i)).append("o 1;");
        }
        fault(offices.toString(), 0, -1);
        fault(offices + "office q 1;", 2, offices.length());
        String pair = "house a 1 1 1;office o 1;";
        fault(pair + "in a o;".repeat(12), 0, -1);
        fault(pair + "in a o;".repeat(13), 2, pair.length() + 12 * 7);
        String stair = "stair a ground 1;";
        fault(pair + stair.repeat(12), 0, -1);
        fault(pair + stair.repeat(13), 2, pair.length() + 12 * stair.length());
        fault(pair + "quay a;".repeat(4), 0, -1);
        fault(pair + "quay a;".repeat(5), 2, pair.length() + 4 * 7);
        fault("wood 1 1;".repeat(8), 0, -1);
        fault("wood 1 1;".repeat(9), 2, 72);
        fault("falls if 1<2;".repeat(4) + "bad if 1<2;".repeat(4), 0, -1);
        fault("falls if 1<2;".repeat(5), 2, 52);
        fault("bad if 1<2;".repeat(5), 2, 44);
        fault("crews 3;".repeat(60), 0, -1);
        fault("due=" + "(".repeat(6) + "1" + ")".repeat(6) + ";", 0, -1);
        fault("due=" + "(".repeat(7), 2, 10);
        fault("due=((((((1)+(2))))));", 0, -1);
        fault("bad if ((((((1))))))<((((((2))))));", 0, -1);
        fault("bad if 1<(((((((2)))))));", 2, 15);
        // 3 and 2 for each of 198 more and one more are 400.
        String longest = "due=1" + "+1".repeat(198);
        fault(longest + ";", 0, -1);
        fault(longest + ";;", 1, longest.length() + 1);
        fault(longest + ";jack 3;", 2, longest.length() + 1);
        fault(longest, 1, longest.length());
        fault(longest + "+", 1, longest.length() + 1);
        fault(longest + "+1;", 2, longest.length() + 1);
        fault(longest + "++;", 1, longest.length() + 1);
        fault(longest + "+?", 1, longest.length() + 1);
        fault(longest + ";?", 1, longest.length() + 1);
        fault(longest + ";  ", 0, -1);
    }

    private static void meaning() {
        fault("house a 0 0 1;house a 0 0 1;", 3, 20);
        fault("house a 0 0 1;office a 1;", 3, 21);
        fault("office a 1;office a 1;", 3, 18);
        fault("office a 1;house a 0 0 1;", 3, 17);
        String known = "house a 1 2 3;house b 1 2 3;office o 4;";
        int k = known.length();
        fault(known + "in a o;", 0, -1);
        fault(known + "in o o;", 4, k + 3);
        fault(known + "in a b;", 4, k + 5);
        fault(known + "in c o;", 4, k + 3);
        fault(known + "stair a b 3;", 0, -1);
        fault(known + "stair o b 3;", 4, k + 6);
        fault(known + "stair a o 3;", 4, k + 8);
        fault(known + "stair a a 3;", 5, k + 8);
        fault(known + "stair c c 3;", 4, k + 6);
        fault(known + "quay o;", 4, k + 5);
        fault(known + "quay b;", 0, -1);
        fault("quay a;house a 1 2 3;", 4, 5);
        fault("house a 40 99 9;house b 0 0 1;", 0, -1);
        fault("house a 41 99 9;", 5, 8);
        fault("house a 40 100 9;", 5, 11);
        fault("house a 40 99 10;", 5, 14);
        fault("house a 40 99 0;", 5, 14);
        fault("office a 99;", 0, -1);
        fault("office a 100;", 5, 9);
        fault(known + "stair a ground 99;", 0, -1);
        fault(known + "stair a ground 100;", 5, k + 15);
        fault("wood 60 99;wood 1 0;", 0, -1);
        fault("wood 61 99;", 5, 5);
        fault("wood 0 99;", 5, 5);
        fault("wood 60 100;", 5, 8);
        fault("crews 9;crews 1;", 0, -1);
        fault("crews 10;", 5, 6);
        fault("crews 0;", 5, 6);
        fault("jack 99;jack 1;", 0, -1);
        fault("jack 100;", 5, 5);
        fault("jack 0;", 5, 5);
        fault("tide=9999;", 0, -1);
    }

    private static void firstFault() {
        fault("house a 41 100 0;", 5, 8);
        fault("jack 0;crews 0;", 5, 5);
        fault("jack 0;quay q;", 5, 5);
        fault("quay q;jack 0;", 4, 5);
        fault("jack 0;rain;", 1, 7);
        fault("jack 0;" + houses(17), 2, 7 + 16 * 15);
        fault(houses(17) + "rain", 2, 16 * 15);
        fault(houses(16) + "rain" + houses(17), 1, 16 * 15);
        fault("house a 1 1 1;house a 41 1 1;", 3, 20);
        fault("due=(((((((1 rain", 2, 10);
    }

    private static void readAgain() {
        StiltTown town = town("house a 1 20 3;office o 20;in a o;wood 4 9;quay a;crews 3;falls if 1<2;bad if 1<2;");
        town.months(5);
        town.work(0, 0, -4);
        town.done();
        town.work(0, 0, 4);
        town.vote(0, 0, 0);
        town.year(9);
        town.hold(0);
        due("read wrong", Tape.read(town, "house b 41 1 1;"), 5);
        due("place", town.place(), 8);
        int[] kept = {1, 1, 0, 1, 1, 3, 10, 1, 1, 5, 1, 0, 1, 1, 1, 1};
        for (int what = 0; what < 16; what++) {
            due("count(" + what + ") behind a fault", town.count(what), kept[what]);
        }
        due("house(0, 1)", town.house(0, 1), 16);
        due("read right", Tape.read(town, "house b 2 9 1;stair b ground 9;"), 0);
        due("place", town.place(), -1);
        int[] fresh = {1, 0, 1, 0, 0, 2, 10, 0, 0, 0, 0, 0, 0, 0, 0, 0};
        for (int what = 0; what < 16; what++) {
            due("count(" + what + ") behind another text", town.count(what), fresh[what]);
        }
        due("house(0, 0)", town.house(0, 0), 2);
        due("house(0, 1)", town.house(0, 1), 9);
        due("house(0, 3)", town.house(0, 3), -2);
        due("undo", town.undo(), false);
        due("restore", town.restore(0), false);
        due("law(2)", town.law(2), 0);
        due("reached", town.reached(12), 1);
        due("read nothing", town.read(), 0);
        due("count(0)", town.count(0), 0);
    }

    private static long tideOf(String law) {
        return town("tide=" + law + ";").tide(6);
    }

    private static void vars() {
        due("hour", tideOf("hour"), 6);
        due("height, rank, load, x, wind, gone, sway", tideOf("hour+height+rank+load+x+wind+gone+sway"), 6);
        due("order", tideOf("20-3*4-2"), 6);
        due("order", tideOf("20/3/2*5"), 15);
        due("order", tideOf("20-(3-(4-2))"), 19);
        due("order", tideOf("2*(3+4)*(1+1)"), 28);
        due("to 0", tideOf("10+(0-7)/2"), 7);
        due("held", tideOf("0-7"), 0);
        due("held", tideOf("100"), 99);
        due("by 0", tideOf("5+1/0"), 0);
        due("by 0", tideOf("5+0*(7/(hour-6))"), 0);
        due("by 0 in brackets", tideOf("9+(1/(3-3))"), 0);
        // 9999 * 9999 is 99980001; times 43 is 4299140043, 4172747 beyond 2 to the 32.
        due("wraps", tideOf("9999*9999*43/9999/10"), 41);
        // 65536 * 32768 is -2147483648, which divided by -1 is itself.
        due("wraps", tideOf("(256*256*(256*128))/(0-1)/9999/9999+30"), 9);
        StiltTown town = town("house a 7 50 3;office o 11;in a o;sway=hour+gone+sway+wind*9999+height+rank+load+x-month;"
            + "due=height+month+hour+wind+gone+sway+rank+load+x;");
        due("sway without wind", town.sway(0, 0), 71);
        town.months(2);
        due("sway with month", town.sway(0, 0), 69);
        due("sway with wind", town.sway(0, 1), 99);
        due("due", town.house(0, 5), 21);
        due("the last law", town("tide=5;tide=7;").tide(0), 7);
        due("without", town("").tide(0), 0);
    }

    private static int bad(String cond) {
        return town("house a 7 50 3;office o 11;in a o;sway=30+wind;bad if " + cond + ";").law(2);
    }

    private static void rules() {
        due("==", bad("x==7"), 1);
        due("!=", bad("x!=7"), 0);
        due("<", bad("x<7"), 0);
        due("<=", bad("x<=7"), 1);
        due("all", bad("height==50 and rank==11 and load==3 and x==7 and month==0"), 1);
        due("sway", bad("sway==30"), 1);
        due("others", bad("hour==0 and wind==0 and gone==0"), 1);
        due("not", bad("not x==7"), 0);
        due("not not", bad("not not x==7"), 1);
        due("and ahead of or", bad("x==7 or x==7 and x==8"), 1);
        due("and ahead of or", bad("x==8 and x==7 or x==7"), 1);
        due("not ahead of and", bad("not x==8 and x==8"), 0);
        due("not ahead of or", bad("not x==7 or x==7"), 1);
        due("by 0", bad("1/0==0"), 0);
        due("by 0", bad("1/0!=0"), 0);
        due("by 0", bad("0<=1/(x-7)"), 0);
        due("not by 0", bad("not 1/0==0"), 1);
        due("not not by 0", bad("not not 1/0==0"), 0);
        due("by 0 in one LIT alone", bad("1/0==0 or x==7"), 1);
        due("by 0 in one LIT alone", bad("x==7 and not 1/0==0 and x==7"), 1);
        due("below 0", bad("0-5<0-4"), 1);
        due("wraps", bad("256*256*256*128<0"), 1);
        StiltTown town = town("house a 0 1 1;house b 0 2 1;house c 0 3 1;bad if height==1;bad if 3==height or 9<height;bad if month==4;");
        due("some rule", town.law(4), 5);
        town.months(4);
        due("month", town.law(4), 7);
    }

    private static void offices() {
        StiltTown town = town("house a 7 50 3;house b 8 51 4;office o 11;office p 12;in a o;in b p;in a p;");
        due("x", town.house(1, 0), 8);
        due("height", town.house(1, 1), 51);
        due("load", town.house(1, 2), 4);
        due("office", town.house(0, 3), 1);
        due("office of none", town.house(1, 3), -2);
        due("rank", town.house(0, 4), 12);
        due("rank of none", town.house(1, 4), 0);
        due("due", town.house(0, 5), 12);
        due("due of none", town.house(1, 5), 0);
        for (int what : new int[] {-1, 6, Integer.MAX_VALUE, Integer.MIN_VALUE}) {
            due("house(0, " + what + ")", town.house(0, what), -1);
        }
        for (int house : new int[] {-1, 2, Integer.MAX_VALUE, Integer.MIN_VALUE}) {
            due("house(" + house + ", 0)", town.house(house, 0), -1);
            due("give(" + house + ", 0)", town.give(house, 0), false);
            due("give(" + house + ", -1)", town.give(house, -1), false);
            due("holder(" + house + ")", town.holder(house), -1);
        }
        due("holder(0)", town.holder(0), -2);
        due("holder(1)", town.holder(1), 0);
        due("give(0, 2)", town.give(0, 2), false);
        due("give(0, -2)", town.give(0, -2), false);
        due("give(1, 1)", town.give(1, 1), true);
        due("house(0, 3)", town.house(0, 3), -2);
        due("holder(1)", town.holder(1), 1);
        due("give(1, 1) again", town.give(1, 1), true);
        due("holder(1)", town.holder(1), 1);
        due("give(1, 0)", town.give(1, 0), true);
        due("holder(1)", town.holder(1), -2);
        due("holder(0)", town.holder(0), 1);
        due("give(1, NONE)", town.give(1, -1), true);
        due("holder(0)", town.holder(0), -2);
        due("give(1, NONE)", town.give(1, -1), true);
        StiltTown left = town("house a 7 50 3;house b 8 51 4;office o 11;office p 12;in a o;in b o;in b p;");
        due("o is left", left.holder(0), -2);
        due("p", left.holder(1), 1);
    }

    private static void tides() {
        StiltTown town = town("house a 0 5 1;house b 0 7 1;house c 0 6 1;tide=hour-month;");
        due("tide(0)", town.tide(0), 0);
        due("tide(23)", town.tide(23), 23);
        due("tide(24)", town.tide(24), -1);
        due("tide(-1)", town.tide(-1), -1);
        due("wet(5)", town.wet(5), 0);
        due("wet(6)", town.wet(6), 1);
        due("wet(7)", town.wet(7), 5);
        due("wet(8)", town.wet(8), 7);
        due("wet(24)", town.wet(24), -1);
        due("wet(-1)", town.wet(-1), -1);
        due("months(0)", town.months(0), 0);
        due("months(11)", town.months(11), 11);
        due("tide(23)", town.tide(23), 12);
        due("months(2)", town.months(2), 1);
        due("months(240)", town.months(240), 1);
        due("months(-1)", town.months(-1), -1);
        due("months(241)", town.months(241), -1);
        due("months(least)", town.months(Integer.MIN_VALUE), -1);
        due("count(9)", town.count(9), 1);
        due("wet(8)", town.wet(8), 5);
    }

    private static void doors() {
        // a is a quay at 20, b at 15, c at 10; d stands on the ground alone.
        StiltTown town = town("house a 0 20 1;house b 0 15 1;house c 0 10 1;house d 0 3 1;house e 0 50 1;quay a;"
            + "stair b a 5;stair b c 5;stair d ground 3;stair d c 6;stair e ground 49;tide=hour-5;");
        due("meets(0)", town.meets(0), 1);
        due("meets(2)", town.meets(2), 1);
        due("meets(3)", town.meets(3), 0);
        due("meets(4)", town.meets(4), 0);
        due("meets(5)", town.meets(5), -1);
        due("meets(-1)", town.meets(-1), -1);
        due("reached(5)", town.reached(5), 15);
        due("reached(6)", town.reached(6), 7);
        due("reached(15)", town.reached(15), 7);
        due("reached(16)", town.reached(16), 3);
        due("reached(20)", town.reached(20), 3);
        due("reached(21)", town.reached(21), 1);
        due("reached(23)", town.reached(23), 1);
        due("reached(24)", town.reached(24), -1);
        due("reached(-1)", town.reached(-1), -1);
        due("hours(0)", town.hours(0), 24);
        due("hours(1)", town.hours(1), 21);
        due("hours(2)", town.hours(2), 16);
        due("hours(3)", town.hours(3), 6);
        due("hours(4)", town.hours(4), 0);
        due("hours(5)", town.hours(5), -1);
        due("hours(-1)", town.hours(-1), -1);
        due("a wet quay", town("house a 0 2 1;quay a;tide=3;").reached(0), 0);
        // The far end is told first, so that several passes are due.
        due("a long way", town("house a 0 9 1;house b 0 9 1;house c 0 9 1;house d 0 9 1;stair d c 0;stair c b 0;stair b a 0;stair a ground 9;")
            .reached(0), 15);
    }

    private static void cuts() {
        // ground - a - b - c, b - d, d - ground too; e is on its own.
        StiltTown town = town("house a 0 9 1;house b 0 9 1;house c 0 9 1;house d 0 9 1;house e 0 9 1;"
            + "stair a ground 9;stair a b 0;stair b c 0;stair b d 0;tide=hour;");
        int[] byStair = {4, 3, 1, 1};
        int[] byHouse = {3, 2, 0, 0, 0};
        for (int i = 0; i < 4; i++) {
            due("cut(" + i + ", true, 0)", town.cut(i, true, 0), byStair[i]);
            due("cut(" + i + ", true, 1)", town.cut(i, true, 1), 0);
        }
        for (int i = 0; i < 5; i++) {
            due("cut(" + i + ", false, 0)", town.cut(i, false, 0), byHouse[i]);
        }
        due("cut(4, true, 0)", town.cut(4, true, 0), -1);
        due("cut(5, false, 0)", town.cut(5, false, 0), -1);
        due("cut(-1, true, 0)", town.cut(-1, true, 0), -1);
        due("cut(-1, false, 0)", town.cut(-1, false, 0), -1);
        due("cut(0, true, 24)", town.cut(0, true, 24), -1);
        due("cut(0, false, -1)", town.cut(0, false, -1), -1);
        due("worst(true, 0)", town.worst(true, 0), 0);
        due("worst(false, 0)", town.worst(false, 0), 0);
        due("worst(true, 5)", town.worst(true, 5), 0);
        due("worst(true, 24)", town.worst(true, 24), -1);
        due("worst(false, -1)", town.worst(false, -1), -1);
        StiltTown alike = town("house a 0 9 1;house b 0 9 1;house c 0 9 1;house d 0 9 1;quay b;quay d;stair c d 0;stair a b 0;");
        due("worst of alike stairs", alike.worst(true, 0), 0);
        due("worst of alike houses", alike.worst(false, 0), 1);
        due("a quay's house goes", alike.cut(1, false, 0), 1);
        due("no stairs", town("house a 0 9 1;").worst(true, 3), -2);
        due("no houses", town("wood 1 1;").worst(false, 3), -2);
        due("no hour ahead of none", town("wood 1 1;").worst(false, 24), -1);
        due("two ways", town("house a 0 9 1;quay a;stair a ground 9;").cut(0, true, 0), 0);
    }

    private static void laws() {
        StiltTown town = town("house a 0 9 1;house b 0 5 2;house c 0 9 3;house d 0 4 4;office o 9;office p 5;office q 4;"
            + "in a o;in b p;in c q;");
        due("law(0)", town.law(0), 2);
        due("law(3)", town.law(3), 12);
        // b has a greater rank than c and stands lower, a one than c and no higher.
        due("law(1)", town.law(1), 2);
        due("law(2)", town.law(2), 0);
        due("law(4)", town.law(4), 0);
        due("law(5)", town.law(5), -1);
        due("law(-1)", town.law(-1), -1);
        StiltTown due = town("house a 3 9 1;house b 0 5 2;office o 95;in b o;due=rank+load*3+x*2-1;");
        due("house(0, 5)", due.house(0, 5), 8);
        due("house(1, 5)", due.house(1, 5), 99);
        due("by 0", town("house a 3 9 1;due=7/(x-3)+5;").house(0, 5), 0);
    }

    private static void woods() {
        StiltTown town = town("wood 5 2;wood 3 3;wood 4 9;wood 10 0;wood 4 9;");
        due("wood(0)", town.wood(0), 2);
        due("wood(3)", town.wood(3), 0);
        due("wood(5)", town.wood(5), -1);
        due("wood(-1)", town.wood(-1), -1);
        due("jack(12, 0)", town.jack(12, 0), 3);
        // 5 4 3 are three pieces, as 4 4 4 are; the first has more of the first WOOD.
        int[] twelve = {1, 1, 1, 0, 0};
        for (int i = 0; i < 5; i++) {
            due("jack(12, 1" + i + ")", town.jack(12, 10 + i), twelve[i]);
        }
        due("jack(8, 10)", town.jack(8, 10), 1);
        due("jack(10, 0)", town.jack(10, 0), 2);
        due("jack(10, 13)", town.jack(10, 13), 0);
        // Four pieces at least: 5 5 3 3 ahead of 4 4 4 4.
        due("jack(16, 0)", town.jack(16, 0), 4);
        due("jack(16, 10)", town.jack(16, 10), 2);
        due("jack(16, 11)", town.jack(16, 11), 2);
        due("jack(16, 12)", town.jack(16, 12), 0);
        due("jack(1, 0)", town.jack(1, 0), -2);
        due("jack(2, 12)", town.jack(2, 12), -2);
        // 10 + 9 + 72 are 91 inches in all.
        due("jack(91, 0)", town.jack(91, 0), 23);
        due("jack(92, 0)", town.jack(92, 0), -2);
        due("jack(99, 0)", town.jack(99, 0), -2);
        due("jack(0, 0)", town.jack(0, 0), -1);
        due("jack(100, 0)", town.jack(100, 0), -1);
        due("jack(-1, 0)", town.jack(-1, 0), -1);
        due("jack(1, 1)", town.jack(1, 1), -1);
        due("jack(1, 9)", town.jack(1, 9), -1);
        due("jack(1, 15)", town.jack(1, 15), -1);
        due("jack(1, -1)", town.jack(1, -1), -1);
        due("jack(1, least)", town.jack(1, Integer.MIN_VALUE), -1);
        StiltTown ones = town("wood 1 99;");
        due("jack(99, 0)", ones.jack(99, 0), 99);
        due("jack(99, 10)", ones.jack(99, 10), 99);
        due("none told", town("").jack(5, 0), -2);
    }

    private static void works() {
        String text = "house a 0 20 1;house b 0 20 1;house c 0 5 1;quay a;stair a b 6;wood 3 2;wood 7 1;crews 2;jack 12;";
        StiltTown town = town(text);
        int[][] none = {{-1, 0, 1}, {100, 0, 1}, {0, -1, 1}, {0, 3, 1}, {0, 0, 0}, {0, 0, 100}, {0, 0, -100}, {0, 0, Integer.MIN_VALUE}};
        for (int[] n : none) {
            due("work " + n[0] + " " + n[1] + " " + n[2], town.work(n[0], n[1], n[2]), -1);
        }
        due("judge()", town.judge(), 0);
        for (int i = 0; i < 40; i++) {
            due("work " + i, town.work(99 - i, 2, i % 2 == 0 ? 99 : -99), i);
        }
        due("work 41", town.work(0, 0, 1), -1);
        due("forget()", town.forget(), 40);
        due("forget()", town.forget(), 0);
        due("count(7)", town.count(7), 0);

        judged(text, 0, 0, 2, 3);
        judged(text, 0, 0, 2, 7, 0, 2, -7);
        judged(text, 21, 0, 2, 3, 0, 2, 7, 0, 2, 99);
        judged(text, 2, 0, 2, 13);
        judged(text, 2, 0, 2, -13);
        judged(text, 3, 0, 2, -6);
        judged(text, 0, 0, 2, -5);
        judged(text + "jack 99;", 3, 0, 2, 95);
        judged(text, 4, 0, 2, 5);
        judged(text, 14, 0, 2, 6, 0, 2, 3);
        judged(text, 0, 0, 2, 6, 0, 2, 7);
        // Ahead of its reason come those of earlier nights, whatever the numbers.
        judged(text, 12, 5, 2, 1, 3, 2, 50);
        judged(text, 24, 5, 2, 13, 4, 2, 3, 3, 2, 11);
        // A piece that is sawn off can be used, but only of a told length.
        judged(text, 0, 0, 0, -3, 1, 0, 9);
        judged(text, 14, 0, 0, -4, 1, 0, 4);
        // b is behind a stair of 6 inches from the quay.
        judged(text, 5, 0, 1, 7);
        judged(text, 0, 0, 1, 6);
        judged(text, 0, 0, 1, 7, 0, 0, 3);
        judged(text, 15, 0, 1, -7, 0, 2, 3);
        judged(text, 25, 1, 2, 3, 0, 2, 3, 1, 1, 7);
        judged(text, 5, 0, 1, -7, 1, 0, -7);
        // Only HOUR 12 counts, and only who was REACHED ahead of that night.
        judged(text + "tide=(hour-12)*99;", 5, 0, 1, -7);
        judged(text + "tide=(13-hour)*99;", 0, 0, 1, -7);
        judged(text + "tide=18;", 5, 0, 1, -3);
        judged("house a 0 50 1;house b 0 9 1;quay b;stair a b 3;", 0, 0, 1, -3);
        // Forty nights, of which the last one goes too far.
        StiltTown nights = town("house a 0 39 1;wood 2 1;");
        for (int i = 0; i < 40; i++) {
            due("work " + i, nights.work(99 - i, 0, -1), i);
        }
        due("judge()", nights.judge(), 3);
        due("done()", nights.done(), -2);
    }

    private static void judged(String text, int verdict, int... works) {
        StiltTown town = town(text);
        StringBuilder told = new StringBuilder(text);
        for (int i = 0; i < works.length; i += 3) {
            town.work(works[i], works[i + 1], works[i + 2]);
            told.append(' ').append(works[i]).append(' ').append(works[i + 1]).append(' ').append(works[i + 2]).append(',');
        }
        due("judge " + told, town.judge(), verdict);
        int heights = town.house(0, 1) + 100 * town.house(1, 1);
        if (verdict != 0) {
            due("done " + told, town.done(), -2);
            due("works stay", town.count(7), works.length / 3);
            due("heights stay", town.house(0, 1) + 100 * town.house(1, 1), heights);
            due("no lot", town.count(10), 0);
        }
    }

    private static void lots() {
        StiltTown town = town("house a 0 20 1;house b 0 40 1;wood 5 2;wood 3 1;wood 2 98;wood 5 7;crews 9;jack 20;");
        due("done() without works", town.done(), 0);
        due("count(10)", town.count(10), 0);
        town.work(4, 0, 8);
        town.work(2, 1, -5);
        town.work(5, 1, -2);
        town.work(5, 1, -2);
        town.work(5, 1, -4);
        due("done()", town.done(), 2);
        due("count(7)", town.count(7), 0);
        due("count(10)", town.count(10), 1);
        int[] wood = {2, 0, 99, 7};
        for (int i = 0; i < 4; i++) {
            due("wood(" + i + ")", town.wood(i), wood[i]);
        }
        due("house(0, 1)", town.house(0, 1), 28);
        due("house(1, 1)", town.house(1, 1), 27);
        town.give(0, -1);
        town.work(3, 0, 1);
        due("done() wrong", town.done(), -2);
        due("undo()", town.undo(), true);
        due("works stay", town.count(7), 1);
        int[] before = {2, 1, 98, 7};
        for (int i = 0; i < 4; i++) {
            due("wood(" + i + ") undone", town.wood(i), before[i]);
        }
        due("house(0, 1)", town.house(0, 1), 20);
        due("house(1, 1)", town.house(1, 1), 40);
        due("undo()", town.undo(), false);
        due("forget()", town.forget(), 1);
        // Of 25 lots the last 20 are kept.
        for (int i = 0; i < 25; i++) {
            town.work(0, 1, -1);
            due("done " + i, town.done(), 0);
        }
        due("count(10)", town.count(10), 20);
        for (int i = 1; i <= 20; i++) {
            due("undo " + i, town.undo(), true);
            due("house(1, 1)", town.house(1, 1), 15 + i);
        }
        due("undo 21", town.undo(), false);
        due("count(10)", town.count(10), 0);
    }

    private static void nights() {
        // Both have to go together: the stair meets before and behind the night, but not between.
        String two = "house a 0 10 1;house b 0 10 1;office o 20;office p 21;in a o;in b p;quay a;stair a b 3;";
        StiltTown town = town(two + "crews 2;");
        due("nights(0)", town.nights(0), 1);
        due("nights(1)", town.nights(1), 3);
        due("nights(2)", town.nights(2), 1);
        due("nights(3)", town.nights(3), -1);
        due("nights(-1)", town.nights(-1), -1);
        StiltTown one = town(two + "crews 1;");
        due("nights(0)", one.nights(0), -2);
        due("nights(1)", one.nights(1), -2);
        due("nights(2)", one.nights(2), 2);
        // b goes down to 8, which cuts c off as long as that is at 16.
        StiltTown chain = town("house a 0 10 1;house b 0 12 1;house c 0 16 1;office o 10;in a o;office p 8;in b p;office q 11;in c q;quay a;"
            + "stair a b 3;stair b c 4;crews 1;");
        due("nights(0)", chain.nights(0), 2);
        due("nights(1)", chain.nights(1), 4);
        due("nights(2)", chain.nights(2), 2);
        // Nobody is reached: any order does; one at first is the fewest that two nights for three leave.
        StiltTown free = town("house a 0 1 1;house b 0 1 1;house c 0 1 1;crews 2;");
        due("nights(0)", free.nights(0), 2);
        due("nights(1)", free.nights(1), 1);
        due("nights(2)", free.nights(2), 2);
        StringBuilder many = new StringBuilder("crews 9;");
        for (int i = 0; i < 8; i++) {
            many.append("house ").append((char) ('a' + i)).append(" 0 1 1;");
        }
        due("eight, nights(0)", town(many.toString()).nights(0), 1);
        due("eight, nights(1)", town(many.toString()).nights(1), 255);
        StiltTown nine = town(many + "house z 0 0 1;house i 0 1 1;");
        due("nine, nights(0)", nine.nights(0), -2);
        due("nine, nights(1)", nine.nights(1), -2);
        due("nine, nights(2)", nine.nights(2), 1);
        due("nine, nights(4)", nine.nights(4), -1);
        StiltTown true1 = town("house a 0 0 1;");
        for (int what = 0; what < 3; what++) {
            due("none untrue, nights(" + what + ")", true1.nights(what), 0);
        }
        // The due of the only house cuts it off.
        due("for ever cut off", town("house a 0 9 1;quay a;tide=5;").nights(0), -2);
    }

    private static void looks() {
        StiltTown town = town("house a 0 30 1;house b 10 20 1;house c 20 10 1;house d 30 0 1;house e 10 5 1;house f 40 30 1;");
        due("looks(0, 1)", town.looks(0, 1), 1);
        due("looks(1, 0)", town.looks(1, 0), 0);
        // b lies on the line from a to c, which is not lower.
        due("looks(0, 2)", town.looks(0, 2), 0);
        due("looks(1, 4)", town.looks(1, 4), 0);
        due("looks(0, 4)", town.looks(0, 4), 1);
        due("looks(5, 3)", town.looks(5, 3), 1);
        due("looks(5, 1)", town.looks(5, 1), 1);
        due("looks(0, 5)", town.looks(0, 5), 0);
        due("looks(2, 3)", town.looks(2, 3), 1);
        due("looks(0, 0)", town.looks(0, 0), -1);
        due("looks(0, 6)", town.looks(0, 6), -1);
        due("looks(-1, 0)", town.looks(-1, 0), -1);
        // The line from 30 to 1 over 3 is at 20 1/3 and 10 2/3.
        due("below the line", town("house a 0 30 1;house b 3 1 1;house c 1 20 1;house d 2 10 1;").looks(0, 1), 1);
        due("above the line", town("house a 0 30 1;house b 3 1 1;house c 1 20 1;house d 2 11 1;").looks(0, 1), 0);
        due("westwards", town("house a 3 30 1;house b 0 1 1;house c 2 21 1;").looks(0, 1), 0);
        due("westwards", town("house a 3 30 1;house b 0 1 1;house c 2 20 1;").looks(0, 1), 1);

        due("light(0)", town.light(0), 3);
        due("light(1)", town.light(1), 2);
        due("light(2)", town.light(2), 0);
        due("light(3)", town.light(3), 0);
        due("light(5)", town.light(5), 3);
        due("light(6)", town.light(6), -1);
        due("light(-1)", town.light(-1), -1);
        due("as many inches as far", town("house a 5 5 1;house b 8 8 1;").light(0), 1);
        due("fewer inches than far", town("house a 5 5 1;house b 8 7 1;").light(0), 3);
        due("as many inches as far, west", town("house a 5 5 1;house b 2 8 1;").light(0), 2);
        due("at one x", town("house a 5 5 1;house b 5 99 1;").light(0), 3);
    }

    private static void chains() {
        StiltTown town = town("house a 0 10 1;house b 0 20 2;house c 0 30 3;house d 0 40 4;house e 0 50 5;"
            + "stair a b 0;stair a b 0;stair b c 99;stair b d 0;stair c d 0;stair e ground 0;"
            + "sway=height*wind/100;falls if gone==1 and load==2;falls if 2<=gone and 3<=sway;falls if 98<wind and 4<load;");
        due("sway(1, 50)", town.sway(1, 50), 10);
        due("sway(4, 99)", town.sway(4, 99), 49);
        due("sway(4, 100)", town.sway(4, 100), -1);
        due("sway(4, -1)", town.sway(4, -1), -1);
        due("sway(5, 0)", town.sway(5, 0), -1);
        // From a: b has one gone beside it, two stairs or not; then neither c nor d has two.
        due("chain(0, 10, 0)", town.chain(0, 10, 0), 2);
        due("chain(0, 10, 1)", town.chain(0, 10, 1), 1);
        due("chain(0, 10, 10)", town.chain(0, 10, 10), 0);
        due("chain(0, 10, 11)", town.chain(0, 10, 11), 1);
        due("chain(0, 10, 12)", town.chain(0, 10, 12), -2);
        // From c: b falls, then d, which has b and c gone; a has one gone, but a load of 1.
        due("chain(2, 10, 0)", town.chain(2, 10, 0), 3);
        due("chain(2, 10, 1)", town.chain(2, 10, 1), 2);
        due("chain(2, 10, 11)", town.chain(2, 10, 11), 1);
        due("chain(2, 10, 13)", town.chain(2, 10, 13), 2);
        due("chain(2, 5, 0)", town.chain(2, 5, 0), 2);
        due("chain(4, 10, 0)", town.chain(4, 10, 0), 1);
        due("chain(4, 10, 1)", town.chain(4, 10, 1), 0);
        due("chain(2, 99, 14)", town.chain(2, 99, 14), 1);
        due("dread(10)", town.dread(10), 2);
        due("dread(5)", town.dread(5), 0);
        due("dread(99)", town.dread(99), 2);
        due("dread(100)", town.dread(100), -1);
        due("dread(-1)", town.dread(-1), -1);
        int[][] none = {{5, 0, 0}, {-1, 0, 0}, {0, 100, 0}, {0, -1, 0}, {0, 0, 2}, {0, 0, 9}, {0, 0, 15}, {0, 0, -1}};
        for (int[] n : none) {
            due("chain " + n[0] + " " + n[1] + " " + n[2], town.chain(n[0], n[1], n[2]), -1);
        }
        StiltTown bare = town("house a 0 9 1;falls if month==3 and hour==0 and rank==0 and x==0;");
        due("without sway", bare.sway(0, 99), 0);
        due("alone", bare.chain(0, 0, 0), 1);
        StiltTown month = town("house a 0 9 1;house b 0 9 1;falls if month==3;");
        due("month 0", month.chain(0, 0, 0), 1);
        month.months(3);
        due("month 3", month.chain(0, 0, 0), 2);
        due("no houses", town("crews 1;").dread(3), -2);
        due("no wind ahead of none", town("crews 1;").dread(100), -1);
    }

    private static void posts() {
        StiltTown town = new StiltTown();
        due("year(-1)", town.year(-1), -1);
        due("year(100)", town.year(100), -1);
        for (int i = 1; i <= 12; i++) {
            due("year " + i, town.year(i == 12 ? 99 : 0), i);
        }
        due("year 13", town.year(5), -1);
        due("count(13)", town.count(13), 12);
        // Up by 99 in the last year, or earlier where there is room.
        due("posts", town.posts(0, 0, 2, 1, 7), 205);
        due("postAt 10", town.postAt(0, 0, 2, 1, 7, 10), 0);
        due("postAt 11", town.postAt(0, 0, 2, 1, 7, 11), 99);
        due("postAt 12", town.postAt(0, 0, 2, 1, 7, 12), -1);
        due("postAt -1", town.postAt(0, 0, 2, 1, 7, -1), -1);
        int[][] none = {{-1, 0, 0, 0, 0}, {100, 0, 0, 0, 0}, {0, -1, 0, 0, 0}, {0, 100, 0, 0, 0}, {0, 0, 100, 0, 0}, {0, 0, -1, 0, 0},
            {0, 0, 0, 100, 0}, {0, 0, 0, -1, 0}, {0, 0, 0, 0, 100}, {0, 0, 0, 0, -1}};
        for (int[] n : none) {
            due("posts none", town.posts(n[0], n[1], n[2], n[3], n[4]), -1);
            due("postAt none", town.postAt(n[0], n[1], n[2], n[3], n[4], 0), -1);
        }
        due("clear", town.clear(), 12);
        due("clear", town.clear(), 0);
        due("no years", town.posts(0, 99, 99, 99, 99), 0);
        due("no years", town.postAt(0, 99, 99, 99, 99, 0), -1);
        for (int[] n : none) {
            due("posts none", town.posts(n[0], n[1], n[2], n[3], n[4]), -1);
        }
        int[] dues = {10, 20, 12, 20};
        for (int d : dues) {
            town.year(d);
        }
        // One change, as late as it can be: each costs 50.
        heights(town, new int[] {10, 10, 1, 1, 50}, 60, 10, 20, 20, 20);
        // Without a cost for changes the way down and up again is dearer than none.
        heights(town, new int[] {10, 10, 1, 1, 0}, 10, 10, 20, 20, 20);
        // Nothing costs anything: the least height of each year.
        heights(town, new int[] {10, 10, 0, 0, 0}, 0, 10, 20, 12, 20);
        heights(town, new int[] {30, 0, 3, 2, 1}, 114, 10, 20, 12, 20);
        heights(town, new int[] {99, 79, 1, 0, 0}, 0, 20, 20, 20, 20);
        town.clear();
        town.year(95);
        town.year(99);
        heights(town, new int[] {97, 99, 5, 5, 5}, 15, 97, 99);
        heights(town, new int[] {97, 99, 0, 0, 99}, 99, 97, 99);
        due("a text empties the row", Tape.read(town, ""), 0);
        due("count(13)", town.count(13), 0);
    }

    private static void heights(StiltTown town, int[] p, int cost, int... heights) {
        due("posts", town.posts(p[0], p[1], p[2], p[3], p[4]), cost);
        for (int i = 0; i < heights.length; i++) {
            due("postAt " + i, town.postAt(p[0], p[1], p[2], p[3], p[4], i), heights[i]);
        }
    }

    private static void votes() {
        StiltTown town = town("house a 0 5 1;house b 0 9 1;house c 0 9 1;house d 0 1 1;office o 1;office p 1;");
        due("vote no house", town.vote(4, 0, 0), -1);
        due("vote no office", town.vote(0, 2, 0), -1);
        due("vote no other", town.vote(0, 0, 4), -1);
        due("vote -1", town.vote(-1, 0, 0), -1);
        due("vote -1", town.vote(0, -1, 0), -1);
        due("vote -1", town.vote(0, 0, -1), -1);
        due("winner without", town.winner(0, 0), -2);
        due("annul(0)", town.annul(0), -1);
        due("vote 0", town.vote(0, 0, 0), 0);
        due("vote 1", town.vote(1, 0, 2), 1);
        due("vote 2", town.vote(2, 0, 1), 2);
        due("vote 3", town.vote(3, 1, 3), 3);
        due("vote 4", town.vote(0, 0, 3), 4);
        due("vote 5", town.vote(3, 0, 3), 5);
        int[] winners = {-2, 0, 2, 1, 1, 1, 3};
        for (int n = 0; n <= 6; n++) {
            due("winner(0, " + n + ")", town.winner(0, n), winners[n]);
        }
        due("winner(1, 3)", town.winner(1, 3), -2);
        due("winner(1, 4)", town.winner(1, 4), 3);
        due("votes(0, 3, 6)", town.votes(0, 3, 6), 2);
        due("votes(0, 3, 5)", town.votes(0, 3, 5), 1);
        due("votes(0, 0, 4)", town.votes(0, 0, 4), 1);
        due("votes(0, 0, 5)", town.votes(0, 0, 5), 0);
        due("annul(4)", town.annul(4), 6);
        due("votes(0, 3, 6) ahead of the VOID", town.votes(0, 3, 6), 2);
        due("votes(0, 3, 7)", town.votes(0, 3, 7), 1);
        due("votes(0, 0, 7)", town.votes(0, 0, 7), 1);
        due("annul a VOID", town.annul(6), -1);
        due("annul(4) again", town.annul(4), 7);
        due("annul(8)", town.annul(8), -1);
        due("annul(-1)", town.annul(-1), -1);
        due("winner(0, 8)", town.winner(0, 8), 1);
        town.work(0, 2, -1);
        due("winner(0, 3)", town.winner(0, 3), 1);
        due("done", town.done(), 0);
        due("count(8)", town.count(8), 8);
        due("winner(0, 9)", town.winner(0, 9), -1);
        due("winner(0, -1)", town.winner(0, -1), -1);
        due("winner(2, 0)", town.winner(2, 0), -1);
        due("winner(-1, 0)", town.winner(-1, 0), -1);
        due("votes(2, 0, 0)", town.votes(2, 0, 0), -1);
        due("votes(0, 4, 0)", town.votes(0, 4, 0), -1);
        due("votes(0, -1, 0)", town.votes(0, -1, 0), -1);
        due("votes(0, 0, 9)", town.votes(0, 0, 9), -1);
        due("votes(0, 0, -1)", town.votes(0, 0, -1), -1);
        for (int i = 8; i < 60; i++) {
            due("vote " + i, town.vote(0, 0, 0), i);
        }
        due("vote 60", town.vote(0, 0, 0), -1);
        due("mark 60", town.mark(0, 0, 0), -1);
        due("annul 60", town.annul(0), -1);
        due("count(8)", town.count(8), 60);
        due("winner(0, 60)", town.winner(0, 60), 1);
    }

    private static void marks() {
        StiltTown town = town("house a 0 5 1;house b 0 9 1;office o 1;");
        due("mark -1", town.mark(-1, 0, 0), -1);
        due("mark 2", town.mark(2, 0, 0), -1);
        due("mark year -1", town.mark(0, -1, 0), -1);
        due("mark year 100", town.mark(0, 100, 0), -1);
        due("mark height -1", town.mark(0, 0, -1), -1);
        due("mark height 100", town.mark(0, 0, 100), -1);
        due("without marks", town.ends(0, 50, 0, 0), 99);
        due("mark 0", town.mark(0, 10, 20), 0);
        due("mark 1", town.mark(0, 20, 40), 1);
        due("mark 2", town.mark(1, 15, 99), 2);
        due("as known by 0", town.ends(0, 12, 3, 0), 99);
        due("as known by 1", town.ends(0, 12, 3, 1), 1426);
        due("as known by 2", town.ends(0, 12, 3, 2), 1626);
        due("at a mark", town.ends(0, 20, 3, 3), 4040);
        due("between", town.ends(0, 15, 2, 3), 3030);
        due("behind", town.ends(0, 30, 3, 3), 1070);
        due("far behind", town.ends(0, 99, 3, 3), 99);
        due("ahead", town.ends(0, 0, 2, 3), 40);
        due("ahead", town.ends(0, 8, 2, 3), 1624);
        due("too steep between", town.ends(0, 15, 1, 3), -2);
        // The marks cannot both be so, in whatever year that is asked.
        due("too steep far off", town.ends(0, 90, 1, 3), -2);
        due("year -1", town.ends(0, -1, 1, 3), -1);
        due("year 100", town.ends(0, 100, 1, 3), -1);
        due("r -1", town.ends(0, 0, -1, 3), -1);
        due("r 100", town.ends(0, 0, 100, 3), -1);
        due("n -1", town.ends(0, 0, 1, -1), -1);
        due("n 4", town.ends(0, 0, 1, 4), -1);
        due("house -1", town.ends(-1, 0, 1, 3), -1);
        due("house 2", town.ends(2, 0, 1, 3), -1);
        due("annul(1)", town.annul(1), 3);
        due("known by 3", town.ends(0, 15, 1, 3), -2);
        due("known by 4", town.ends(0, 15, 1, 4), 1525);
        due("mark 4", town.mark(0, 10, 21), 4);
        due("two heights in one year", town.ends(0, 10, 99, 5), -2);
        due("two heights in one year", town.ends(0, 50, 99, 5), -2);
    }

    private static void years() {
        StiltTown none = new StiltTown();
        due("years(1, 0)", none.years(1, 0), -1);
        due("years(1, 41)", none.years(1, 41), -1);
        due("years(1, -1)", none.years(1, -1), -1);
        due("years(1, 40)", none.years(1, 40), 0);
        // One house, one office: it leaves and gets it each year; 10 a year, then 9.
        StiltTown one = town("house a 0 5 1;office o 34;");
        one.months(7);
        due("years(5, 2)", one.years(5, 2), 20);
        due("house(0, 1)", one.house(0, 1), 25);
        due("holder(0)", one.holder(0), 0);
        due("count(9)", one.count(9), 7);
        due("years(5, 2)", one.years(5, 2), 9);
        due("house(0, 1)", one.house(0, 1), 34);
        due("years(5, 40)", one.years(5, 40), 0);
        StiltTown bare = town("house a 0 5 1;");
        due("without offices", bare.years(5, 9), 0);
        due("house(0, 1)", bare.house(0, 1), 5);
        // Two crews: the first two untrue houses go each year, and undo has nothing then.
        StiltTown crews = town("house a 0 5 1;house b 0 7 1;house c 0 9 1;house d 0 30 1;office o 0;jack 4;wood 1 9;");
        crews.work(0, 3, 1);
        due("done()", crews.done(), 1);
        due("count(10)", crews.count(10), 1);
        due("years(0, 0)", crews.years(0, 0), -1);
        due("count(10)", crews.count(10), 1);
        due("years(0, 1)", crews.years(0, 1), 8);
        due("count(10)", crews.count(10), 0);
        due("undo()", crews.undo(), false);
        due("house(0, 1)", crews.house(0, 1), 1);
        due("house(1, 1)", crews.house(1, 1), 3);
        due("house(2, 1)", crews.house(2, 1), 9);
        due("years(0, 1)", crews.years(0, 1), 4);
        due("house(0, 1)", crews.house(0, 1), 0);
        due("years(0, 1)", crews.years(0, 1), 8);
        due("wood(0)", crews.wood(0), 8);
        lotsOfYears();
    }

    /** LOTS once more, with numbers that do not wrap by themselves. */
    private static void lotsOfYears() {
        String text = "house a 0 0 1;house b 0 0 1;house c 0 0 1;house d 0 0 1;house e 0 0 1;office o 0;office p 0;office q 0;in c q;in d o;";
        for (int seed : new int[] {0, 1, -1, 7, 12345, Integer.MIN_VALUE, Integer.MAX_VALUE, -987654}) {
            StiltTown town = town(text);
            int[] holders = {3, -2, 2};
            due("years", town.years(seed, 6), 0);
            for (int i = 0; i < 6; i++) {
                int leaves = NaiveTown.lot(5, seed, 10 * i);
                int office = NaiveTown.lot(3, seed, 10 * i + 1);
                int house = NaiveTown.lot(5, seed, 10 * i + 2);
                for (int o = 0; o < 3; o++) {
                    holders[o] = holders[o] == leaves ? -2 : holders[o];
                }
                if (holders[office] == -2) {
                    for (int o = 0; o < 3; o++) {
                        holders[o] = holders[o] == house ? -2 : holders[o];
                    }
                    holders[office] = house;
                }
            }
            for (int o = 0; o < 3; o++) {
                due("holder(" + o + ") of seed " + seed, town.holder(o), holders[o]);
            }
        }
    }

    private static void slots() {
        StiltTown town = town("house a 0 20 1;house b 0 9 1;office o 3;wood 4 5;");
        due("hold(-1)", town.hold(-1), false);
        due("hold(2)", town.hold(2), false);
        due("restore(0)", town.restore(0), false);
        town.give(0, 0);
        town.work(0, 1, 4);
        town.mark(0, 5, 6);
        town.months(3);
        town.year(9);
        due("hold(1)", town.hold(1), true);
        due("count(12)", town.count(12), 1);
        town.done();
        town.give(1, 0);
        town.annul(0);
        town.months(4);
        town.work(1, 0, -9);
        town.work(1, 0, -9);
        town.year(9);
        due("hold(0)", town.hold(0), true);
        due("hold(0)", town.hold(0), true);
        due("count(12)", town.count(12), 2);
        due("restore(1)", town.restore(1), true);
        due("house(1, 1)", town.house(1, 1), 9);
        due("wood(0)", town.wood(0), 5);
        due("holder(0)", town.holder(0), 0);
        due("count(9)", town.count(9), 3);
        due("count(7)", town.count(7), 1);
        due("count(8)", town.count(8), 1);
        due("ends", town.ends(0, 5, 0, 1), 606);
        due("the row stays", town.count(13), 2);
        due("undo()", town.undo(), false);
        due("count(10)", town.count(10), 0);
        due("done()", town.done(), 1);
        due("house(1, 1)", town.house(1, 1), 13);
        due("restore(0)", town.restore(0), true);
        due("count(7)", town.count(7), 2);
        due("count(8)", town.count(8), 2);
        due("count(9)", town.count(9), 7);
        due("holder(0)", town.holder(0), 1);
        due("undo()", town.undo(), false);
        due("done()", town.done(), 0);
        due("house(0, 1)", town.house(0, 1), 2);
        due("restore(2)", town.restore(2), false);
        due("restore(-1)", town.restore(-1), false);
        due("undo() behind a restore that is none", town.undo(), true);
        due("restore(1) again", town.restore(1), true);
        due("house(1, 1)", town.house(1, 1), 9);
        due("what a slot holds stays", town.house(0, 1), 20);
        heldLogs();
    }

    /** LOGS that are told behind a restore do not change those that another SLOT holds. */
    private static void heldLogs() {
        StiltTown town = town("house a 0 20 1;house b 0 9 1;office o 3;office p 3;");
        town.hold(0);
        town.vote(0, 1, 1);
        town.mark(1, 7, 8);
        town.annul(0);
        town.mark(1, 9, 12);
        town.hold(1);
        due("restore(0)", town.restore(0), true);
        due("count(8)", town.count(8), 0);
        town.mark(0, 1, 1);
        town.mark(0, 2, 2);
        town.vote(1, 0, 0);
        town.annul(1);
        due("winner(0, 4)", town.winner(0, 4), 0);
        due("ends(0, 2, 9, 2)", town.ends(0, 2, 9, 2), 202);
        due("restore(1)", town.restore(1), true);
        due("count(8)", town.count(8), 4);
        due("winner(0, 4)", town.winner(0, 4), -2);
        due("winner(1, 2)", town.winner(1, 2), 1);
        due("winner(1, 3)", town.winner(1, 3), -2);
        due("ends(1, 8, 2, 4)", town.ends(1, 8, 2, 4), 1010);
        due("ends(1, 7, 2, 4)", town.ends(1, 7, 2, 4), 808);
        due("ends(0, 2, 9, 4)", town.ends(0, 2, 9, 4), 99);
        due("annul(2)", town.annul(2), -1);
        due("annul(3)", town.annul(3), 4);
    }

    private static void counts() {
        StiltTown town = town("house a 0 20 1;house b 0 9 1;house c 0 9 1;office o 3;office p 3;stair a b 1;stair a b 1;stair b c 1;stair c a 1;"
            + "quay a;quay a;wood 4 5;wood 4 6;wood 4 7;wood 4 8;wood 4 9;crews 8;jack 77;falls if 1<2;bad if 1<2;bad if 1<2;");
        town.feed(0, 0, 0, 0, 0);
        town.work(0, 0, -1);
        town.done();
        town.work(0, 0, 4);
        town.work(0, 0, 4);
        town.vote(0, 0, 0);
        town.vote(0, 0, 0);
        town.vote(0, 0, 0);
        town.months(11);
        town.year(4);
        town.year(4);
        town.hold(0);
        int[] counts = {3, 2, 4, 2, 5, 8, 77, 2, 3, 11, 1, 20, 1, 2, 1, 2};
        for (int what = 0; what < 16; what++) {
            due("count(" + what + ")", town.count(what), counts[what]);
        }
        due("count(16)", town.count(16), -1);
        due("count(-1)", town.count(-1), -1);
        due("count(least)", town.count(Integer.MIN_VALUE), -1);
    }
}
