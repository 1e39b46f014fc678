/** The edges that the document names for a text: its bytes, TOKENS, FAULTS and their places, and its reckoning. */
final class TextEdgesTest extends Answers {
    private static final String KNOWN = "house a 1 2 3 ; house b 1 2 3 ; office o 4 ; ";
    private static final int KNOWN_TOKENS = 16;
    private static final String[] TELLS = {
        "house c 1 2 3 ;", "office p 4 ;", "in a o ;", "stair a b 5 ;", "stair a ground 5 ;", "quay a ;", "wood 6 7 ;",
        "crews 3 ;", "jack 8 ;", "tide = hour ;", "due = ( rank + 1 ) * load / 2 - x ;", "sway = ( ( wind ) ) ;",
        "falls if not gone < 1 and 2 <= gone or height != 3 ;", "bad if not not ( x + 1 ) == ( month ) ;"};
    private static final String[] WORDS = {
        "house", "office", "in", "stair", "ground", "quay", "wood", "crews", "jack", "tide", "due", "sway", "falls", "bad",
        "if", "or", "and", "not", "height", "rank", "load", "x", "hour", "month", "wind", "gone"};

    private TextEdgesTest() {
    }

    public static void main(String[] args) {
        promise = "a text has 2,000 bytes at most"; longestText();
        promise = "a text can be empty"; emptyText();
        promise = "none of the words in quotes"; words();
        promise = "letters a .. z, 8 at most"; names();
        promise = "1 to 4 digits"; ints();
        promise = "blanks (9, 10, 13, 32) between or not"; blanks();
        promise = "all else is no TOKEN"; everyByte();
        promise = "the longest that can be"; longest();
        promise = "the text's end: its length"; cutShort();
        promise = "a TOKEN with which no text goes on"; unfit();
        promise = "a text behind one with a FAULT"; rightBehindWrong();
        promise = "a 401st TOKEN"; tokenTooMany();
        promise = "one more than there is ROOM for"; roomOfTells();
        promise = "a 7th ( within one another"; brackets();
        promise = "a NAME told already"; twice();
        promise = "no HOUSE, no OFFICE told ahead"; unknown();
        promise = "WRONG (at the INT)"; wrongInts();
        promise = "WRONG (at the second NAME)"; wrongStairs();
        promise = "the first by its place, of one place the least"; firstFault();
        promise = "the last one told holds"; lastTold();
        promise = "== != < <=, not, and, or"; conds();
        promise = "32 bits that wrap"; wraps();
        promise = "/ rounded towards 0"; rounds();
        promise = "a LIT with a division by 0"; litsByNought();
        promise = "an E that divides by 0 anywhere in it"; sumsByNought();
        promise = "VARS as told, else 0"; varsElse();
        promise = "held to 0 .. 99"; held();
        end();
    }

    private static String spaces(int many) {
        return " ".repeat(many);
    }

    private static void longestText() {
        String seven = "jack 7;";
        StiltTown town = new StiltTown();
        due("all of 2,000 bytes", Tape.read(town, spaces(1993) + seven), 0);
        due("the last of them counts", town.count(6), 7);
        fault(spaces(2000), 0, -1);
        fault(spaces(1993) + "jack 70", 1, 2000);
        fault(spaces(1990) + seven + "   ", 0, -1);
        fault(spaces(1990) + "jack 7   ", 1, 1999);
        fault(spaces(1999) + "?", 1, 1999);
        fault(spaces(1992) + "jack 100", 1, 2000);
        fault(spaces(1990) + "jack  100;", 5, 1996);
        // What is refused does not come behind the tape.
        StiltTown full = new StiltTown();
        Tape.put(full, spaces(1974) + seven);
        due("feed behind 1,981", full.feed(-1, -1, -1, -1, -1), -1);
        due("count(11)", full.count(11), 1981);
        due("read()", full.read(), 0);
        due("count(6)", full.count(6), 7);
        StiltTown edge = new StiltTown();
        Tape.put(edge, spaces(1980));
        due("feed behind 1,980", edge.feed(0x6a61636b, 0x20383b20, 0x20202020, 0x20202020, 0x20202020), 2000);
        due("feed behind 2,000", edge.feed(-1, -1, -1, -1, -1), -1);
        due("read()", edge.read(), 0);
        due("count(6)", edge.count(6), 8);
        due("the tape is empty", edge.count(11), 0);
        due("feed then", edge.feed(0, 0, 0, 0, 0), 20);
    }

    private static void emptyText() {
        for (String none : new String[] {"", " ", "\t\n\r \t\n\r "}) {
            StiltTown town = town(KNOWN + "tide=5;falls if 1<2;bad if 1<2;wood 1 1;quay a;stair a b 5;in a o;crews 9;jack 99;");
            town.months(7);
            due("nothing", Tape.read(town, none), 0);
            due("place", town.place(), -1);
            for (int what = 0; what < 16; what++) {
                due("count(" + what + ")", town.count(what), what == 5 ? 2 : what == 6 ? 10 : 0);
            }
            due("tide(3)", town.tide(3), 0);
        }
    }

    private static boolean isWord(String name) {
        for (String word : WORDS) {
            if (word.equals(name)) {
                return true;
            }
        }
        return false;
    }

    private static void words() {
        for (String word : WORDS) {
            fault("house " + word + " 1 2 3;", 1, 6);
            fault("office " + word + " 1;", 1, 7);
            fault("house " + word + "s 1 2 3;", 0, -1);
            fault("house z" + word + " 1 2 3;", 0, -1);
            String shorter = word.substring(0, word.length() - 1);
            fault("house " + shorter + " 1 2 3;", shorter.isEmpty() ? 1 : 0, shorter.isEmpty() ? 7 : -1);
            // A word in quotes with another letter at its end is a NAME, but for those that are words themselves.
            String other = shorter + (word.endsWith("q") ? "k" : "q");
            fault("office " + other + " 1;", isWord(other) ? 1 : 0, isWord(other) ? 7 : -1);
        }
    }

    private static void names() {
        fault("house abcdefgh 1 2 3;house abcdefgi 1 2 3;", 0, -1);
        fault("house abcdefgh 1 2 3;house abcdefgh 1 2 3;", 3, 27);
        fault("house zzzzzzzz 1 2 3;", 0, -1);
        fault("house zzzzzzzzz 1 2 3;", 1, 6);
        fault("house househouse 1 2 3;", 1, 6);
        fault("house a 1 2 3;house aa 1 2 3;house aaaaaaaa 1 2 3;quay a;quay aa;quay aaaaaaaa;quay aaaaaaa;", 4, 84);
        fault("houseofmany", 1, 0);
        // Each of 28 NAMES is told from all the others.
        String[] alike = {"a", "aa", "aaa", "b", "ab", "ba", "p", "ap", "aap", "q", "aq", "qa", "z", "az", "za", "zz",
            "zzzzzzzz", "zzzzzzz", "yzzzzzzz", "zyzzzzzz", "zzzzzzzy", "azzzzzzz", "zazzzzzz", "pppppppp", "appppppp", "papppppp", "o", "ao"};
        StringBuilder text = new StringBuilder();
        for (int i = 0; i < alike.length; i++) {
            text.append(i < 16 ? "house " : "office ").append(alike[i]).append(i < 16 ? " 1 2 3;" : " " + i + ";");
        }
        for (int i = 0; i < 12; i++) {
            text.append("in ").append(alike[i]).append(' ').append(alike[27 - i]).append(';');
        }
        StiltTown full = town(text.toString());
        for (int i = 0; i < 16; i++) {
            due(alike[i] + " is in", full.house(i, 3), i < 12 ? 11 - i : -2);
        }
        StiltTown town = town("house b 1 2 3;house bbbbbbbb 4 5 6;quay bbbbbbbb;");
        due("the longer one is the quay", town.reached(0), 2);
    }

    private static void ints() {
        fault("due=9999;", 0, -1);
        fault("due=10000;", 1, 4);
        fault("due=0000;", 0, -1);
        fault("due=00000;", 1, 4);
        fault("due=1+00001;", 1, 6);
        fault("jack 0099;", 0, -1);
        fault("jack 00099;", 1, 5);
        fault("jack 99999999999999999999;", 1, 5);
        due("0099", town("jack 0099;").count(6), 99);
    }

    private static void blanks() {
        fault("\thouse\na\r1\t2\n3\r;\n\t", 0, -1);
        fault("house a 1 2 3;office o 4;in a o;stair a ground 0;quay a;crews 1;due=rank+load*(x-1)/2;bad if x<=3;", 0, -1);
        fault("crews2;jack3;wood4 5;", 0, -1);
        fault("crews2;jack3;wood45;", 1, 19);
    }

    /** Each byte at a place where a NAME, an INT, a sign or nothing at all would do. */
    private static void everyByte() {
        for (int sign = 0; sign < 256; sign++) {
            char c = (char) sign;
            boolean blank = sign == 9 || sign == 10 || sign == 13 || sign == 32;
            boolean letter = c >= 'a' && c <= 'z';
            boolean digit = c >= '0' && c <= '9';
            fault("" + c, blank ? 0 : 1, blank ? -1 : 0);
            fault("house " + c + " 1 2 3;", letter && c != 'x' ? 0 : 1, letter && c != 'x' ? -1 : blank ? 8 : 6);
            fault("jack " + c + ";", c == '0' ? 5 : digit ? 0 : 1, c == '0' ? 5 : digit ? -1 : blank ? 6 : 5);
            boolean joins = digit || "+-*/".indexOf(c) >= 0;
            fault("due=1" + c + "1;", joins ? 0 : 1, joins ? -1 : blank || c == ';' ? 6 : 5);
        }
    }

    private static void longest() {
        fault("bad if 1<=2;", 0, -1);
        fault("bad if 1< =2;", 1, 10);
        fault("bad if 1==2;", 0, -1);
        fault("bad if 1= =2;", 1, 8);
        fault("bad if 1!=2;", 0, -1);
        fault("bad if 1! =2;", 1, 8);
        fault("bad if 1===2;", 1, 10);
        fault("bad if 1!==2;", 1, 10);
        fault("bad if 1<==2;", 1, 10);
        fault("bad if 1<<2;", 1, 9);
        fault("bad if 1=2;", 1, 8);
        fault("bad if 1!", 1, 8);
        fault("bad if 1=", 1, 8);
        fault("bad if 1<", 1, 9);
        fault("due==1;", 1, 3);
        fault("due= =1;", 1, 5);
        fault("due=1house", 1, 5);
        fault("jack 1jack 2;", 1, 6);
        fault("house a1 2 3;", 0, -1);
        fault("house a 1 2 3;house b1 2 3;office o4;quay a;wood 1 2;", 0, -1);
        fault("bad ifx<1andx<2;", 1, 4);
        fault("bad if x<1and x<2or not x<3;", 0, -1);
        fault("due=x1;", 1, 5);
        fault("due=xx;", 1, 4);
    }

    private static String[] tokens(String tell) {
        return tell.split(" ");
    }

    private static String ahead(String[] tokens, int many) {
        StringBuilder text = new StringBuilder();
        for (int i = 0; i < many; i++) {
            text.append(tokens[i]).append(' ');
        }
        return text.toString();
    }

    private static void cutShort() {
        for (String tell : TELLS) {
            String[] tokens = tokens(tell);
            for (int k = 1; k < tokens.length; k++) {
                String text = KNOWN + ahead(tokens, k);
                fault(text.trim(), 1, text.length() - 1);
                fault(text, 1, text.length());
                fault(text + "\n\t ", 1, text.length() + 3);
            }
            fault(KNOWN + tell, 0, -1);
            fault(KNOWN + tell + "\r\n", 0, -1);
        }
    }

    private static void unfit() {
        for (String tell : TELLS) {
            String[] tokens = tokens(tell);
            for (int k = 0; k < tokens.length; k++) {
                String text = KNOWN + ahead(tokens, k);
                fault(text + "?", 1, text.length());
                fault(text + "toolongname", 1, text.length());
                fault(text + "00000 ;", 1, text.length());
                fault(text + "= " + "= ;", 1, tokens[k].equals("=") ? text.length() + 2 : text.length());
                fault(text + "house", 1, k == 0 ? text.length() + 5 : text.length());
                fault(text + "if", 1, tokens[k].equals("if") ? text.length() + 2 : text.length());
            }
        }
        String[] beginNone = {"ground", "if", "or", "and", "not", "height", "rank", "load", "x", "hour", "month", "wind", "gone",
            "a", "5", ";", "=", "+", "-", "*", "/", "==", "!=", "<", "<=", "(", ")", "toolongname", "12345", "!", "A"};
        for (String token : beginNone) {
            fault(token, 1, 0);
            fault(token + ";", 1, 0);
            fault(KNOWN + token, 1, KNOWN.length());
        }
    }

    /** Nothing of a text that ends somewhere within a TELL is left for the next one. */
    private static void rightBehindWrong() {
        for (String tell : TELLS) {
            String[] tokens = tokens(tell);
            StiltTown town = new StiltTown();
            for (int k = 1; k < tokens.length; k++) {
                due("cut short", Tape.read(town, KNOWN + "wood 1 1;falls if 1<2;bad if 1<2;" + ahead(tokens, k)), 1);
                due("whole", Tape.read(town, KNOWN + tell), 0);
                due("place", town.place(), -1);
                due("HOUSES", town.count(0), tell.startsWith("house") ? 3 : 2);
                due("OFFICES", town.count(1), tell.startsWith("office") ? 2 : 1);
                due("WOOD", town.count(4), tell.startsWith("wood") ? 1 : 0);
                due("falls", town.count(14), tell.startsWith("falls") ? 1 : 0);
                due("bad", town.count(15), tell.startsWith("bad") ? 1 : 0);
                due("tide", town.tide(7), tell.startsWith("tide") ? 7 : 0);
                due("sway", town.sway(0, 7), tell.startsWith("sway") ? 7 : 0);
                due("due", town.house(1, 5), 0);
            }
        }
        StiltTown town = new StiltTown();
        for (String wrong : new String[] {"due=((1", "due=1+2*(3*(", "bad if not 1+(2", "bad if 1<2 and not", "tide=1-2*", "falls if not", "due=((((((("}) {
            due(wrong, Tape.read(town, wrong) == 0, false);
            due("right", Tape.read(town, "tide=9-3*2;due=4*(5-3);sway=(1);bad if not 2<1;house a 1 2 3;"), 0);
            due("tide", town.tide(0), 3);
            due("due", town.house(0, 5), 8);
            due("sway", town.sway(0, 0), 1);
            due("bad", town.law(2), 1);
        }
    }

    /** TELLS of three and of four TOKENS, so many in all. */
    private static String pad(int tokens) {
        int fours = 0;
        while ((tokens - 4 * fours) % 3 != 0) {
            fours++;
        }
        return "due=1;".repeat(fours) + "crews 3;".repeat((tokens - 4 * fours) / 3);
    }

    private static void tokenTooMany() {
        for (String tell : TELLS) {
            String[] tokens = tokens(tell);
            for (int k = 0; k <= tokens.length; k++) {
                String text = KNOWN + pad(400 - KNOWN_TOKENS - k);
                if (k == tokens.length) {
                    fault(text + tell, 0, -1);
                    fault(text + tell + "\n \r\t", 0, -1);
                    fault(text + tell + "?", 1, text.length() + tell.length());
                    fault(text + tell + "a", 1, text.length() + tell.length());
                    fault(text + tell + "wood", 2, text.length() + tell.length());
                } else {
                    int place = text.length() + ahead(tokens, k).length();
                    fault(text + tell, 2, place);
                    fault(text + ahead(tokens, k + 1), 2, place);
                    fault(text + ahead(tokens, k) + "?", 1, place);
                    // The 400th TOKEN is there, and with none behind it no TELL ends.
                    fault(text + ahead(tokens, k), k == 0 ? 0 : 1, k == 0 ? -1 : place);
                }
            }
        }
    }

    private static void roomOfTells() {
        roomOf("house ", " 1 2 3;", 16, true);
        roomOf("office ", " 1;", 12, true);
        roomOf("in a", " o;", 12, false);
        roomOf("stair a", " b 1;", 12, false);
        roomOf("stair b", " ground 1;", 12, false);
        roomOf("quay ", "b;", 4, false);
        roomOf("wood ", "1 1;", 8, false);
        roomOf("falls ", "if 1<2;", 4, false);
        roomOf("bad ", "if 1<2;", 4, false);
        // Laws, crews and jacks can be told as often as there are TOKENS.
        fault("tide=1;".repeat(100), 0, -1);
        fault("sway=1;".repeat(100), 0, -1);
        fault("due=1;".repeat(100) + "due", 2, 600);
        fault("jack 1;".repeat(133), 0, -1);
        fault("crews 1;".repeat(133), 0, -1);
        // Each kind has room of its own.
        String all = KNOWN + "in a o;".repeat(12) + "stair a b 1;".repeat(12) + "quay a;".repeat(4) + "wood 1 1;".repeat(8)
            + "falls if 1<2;".repeat(4) + "bad if 1<2;".repeat(4);
        fault(all, 0, -1);
        fault(all + "house zz 1 1 1;office zo 1;", 0, -1);
    }

    /** Most of one TELL are right; one more is a FAULT at its first TOKEN, whatever comes behind it. */
    private static void roomOf(String front, String rear, int most, boolean names) {
        StringBuilder text = new StringBuilder(names ? "" : KNOWN);
        for (int i = 0; i < most; i++) {
            text.append(front).append(names ? "n" + (char) ('a' + i) : "").append(rear);
        }
        int place = text.length();
        fault(text.toString(), 0, -1);
        fault(text + front + (names ? "new" : "") + rear, 2, place);
        fault(text + front, 2, place);
        fault(text + front + "?", 2, place);
        fault(text + "  " + front, 2, place + 2);
        fault(text + "jack 0;" + front, 2, place + 7);
        fault(text + "?" + front, 1, place);
    }

    private static void brackets() {
        for (String law : new String[] {"tide=", "due=", "sway=", "falls if ", "bad if ", "falls if 1<", "bad if not 1+2*3<=1+2*"}) {
            boolean left = law.endsWith("if ");
            String rear = left ? "<1;" : ";";
            fault(law + "(".repeat(6) + "1" + ")".repeat(6) + rear, 0, -1);
            fault(law + "(".repeat(7) + "1" + ")".repeat(7) + rear, 2, law.length() + 6);
            fault(law + "(".repeat(7), 2, law.length() + 6);
            fault(law + "(".repeat(6), 1, law.length() + 6);
            fault(law + "(".repeat(6) + "1" + ")".repeat(5) + rear, 1, law.length() + 12);
            fault(law + "(".repeat(6) + "1" + ")".repeat(7) + rear, 1, law.length() + 13);
            // Six again where one has been closed, and any number beside one another.
            fault(law + "(".repeat(6) + "1)+(2)+(3)" + ")".repeat(5) + rear, 0, -1);
            fault(law + "(".repeat(6) + "1)+((2))" + ")".repeat(5) + rear, 2, law.length() + 10);
            fault(law + "(1)+".repeat(9) + "(1)" + rear, 0, -1);
            // Where no ( can stand, the 7th is not one too many.
            fault(law + "(".repeat(6) + "1(", 1, law.length() + 7);
        }
        fault("bad if " + "(".repeat(6) + "1" + ")".repeat(6) + "<" + "(".repeat(6) + "1" + ")".repeat(6) + ";", 0, -1);
        due("all six count", town("tide=((((((1+1)*2+1)*2+1)*2+1)*2+1)*2+1);").tide(0), 95);
        due("all six wait", town("tide=1+2*(1+2*(1+2*(1+2*(1+2*(1+1*(1+1))))))-50;").tide(0), 77);
    }

    private static void twice() {
        fault("house a 1 2 3;house b 1 2 3;house a 1 2 3;", 3, 34);
        fault("house a 1 2 3;office a 1;", 3, 21);
        fault("office a 1;house a 1 2 3;", 3, 17);
        fault("office a 1;office b 1;office b 1;", 3, 29);
        fault("house a 1 2 3;office o 1;in a o;in a o;quay a;quay a;stair a ground 1;stair a ground 1;", 0, -1);
        // The 16th HOUSE and the 12th OFFICE are looked at as well.
        StringBuilder text = new StringBuilder();
        for (char c = 'a'; c < 'p'; c++) {
            text.append("house n").append(c).append(" 1 2 3;");
        }
        for (char c = 'a'; c < 'l'; c++) {
            text.append("office o").append(c).append(" 1;");
        }
        fault(text + "house od 1 2 3;", 3, text.length() + 6);
        fault(text + "house last 1 2 3;office last 4;", 3, text.length() + 24);
        fault(text + "house last 1 2 3;office final 4;in last final;", 0, -1);
        fault(text + "office last 4;office last 4;", 2, text.length() + 14);
    }

    private static void unknown() {
        int k = KNOWN.length();
        fault(KNOWN + "in a b;", 4, k + 5);
        fault(KNOWN + "in o a;", 4, k + 3);
        fault(KNOWN + "in a p;office p 1;", 4, k + 5);
        fault(KNOWN + "in c o;house c 1 2 3;", 4, k + 3);
        fault(KNOWN + "stair a c 1;house c 1 2 3;", 4, k + 8);
        fault(KNOWN + "stair c ground 1;", 4, k + 6);
        fault(KNOWN + "stair a o 1;", 4, k + 8);
        fault(KNOWN + "quay c;house c 1 2 3;", 4, k + 5);
        fault(KNOWN + "quay o;", 4, k + 5);
        fault("house a 1 2 3;quay a;house b 1 2 3;", 0, -1);
        fault("quay a;", 4, 5);
        fault("quay abcdefgh;", 4, 5);
    }

    private static void wrongInts() {
        wrongInt("house c ", " 2 3;", 0, 40);
        wrongInt("house c 1 ", " 3;", 0, 99);
        wrongInt("house c 1 2 ", ";", 1, 9);
        wrongInt("office p ", ";", 0, 99);
        wrongInt("stair a b ", ";", 0, 99);
        wrongInt("stair b ground ", ";", 0, 99);
        wrongInt("wood ", " 7;", 1, 60);
        wrongInt("wood 6 ", ";", 0, 99);
        wrongInt("crews ", ";", 1, 9);
        wrongInt("jack ", ";", 1, 99);
    }

    private static void wrongInt(String front, String rear, int least, int most) {
        int place = KNOWN.length() + front.length();
        for (int right : new int[] {least, most, (least + most) / 2}) {
            fault(KNOWN + front + right + rear, 0, -1);
        }
        fault(KNOWN + front + "00" + most + rear, 0, -1);
        if (least > 0) {
            fault(KNOWN + front + (least - 1) + rear, 5, place);
            fault(KNOWN + front + "0000" + rear, 5, place);
        }
        for (int wrong : new int[] {most + 1, 100, 1000, 9999}) {
            fault(KNOWN + front + wrong + rear, 5, place);
        }
        fault(KNOWN + front + "10000" + rear, 1, place);
    }

    private static void wrongStairs() {
        int k = KNOWN.length();
        fault(KNOWN + "stair a a 1;", 5, k + 8);
        fault(KNOWN + "stair b  b 1;", 5, k + 9);
        fault(KNOWN + "stair b a 1;stair a b 1;stair a ground 1;", 0, -1);
        fault(KNOWN + "stair a a 100;", 5, k + 8);
        fault(KNOWN + "stair a b 100;", 5, k + 10);
        fault(KNOWN + "stair c c 1;", 4, k + 6);
        fault(KNOWN + "stair o o 1;", 4, k + 6);
    }

    private static void firstFault() {
        int k = KNOWN.length();
        // 3, 4 and 5 by their places alone.
        fault(KNOWN + "jack 0;quay z;house a 1 2 3;", 5, k + 5);
        fault(KNOWN + "quay z;house a 1 2 3;jack 0;", 4, k + 5);
        fault(KNOWN + "house a 41 2 3;quay z;jack 0;", 3, k + 6);
        fault(KNOWN + "house c 41 100 0;", 5, k + 8);
        fault(KNOWN + "house c 40 100 0;", 5, k + 11);
        fault(KNOWN + "stair z z 100;", 4, k + 6);
        fault(KNOWN + "in z z;", 4, k + 3);
        fault(KNOWN + "wood 0 100;crews 0;", 5, k + 5);
        // 1 and 2 ahead of them, wherever they are.
        fault(KNOWN + "house a 1 2 3;quay z;jack 0", 1, k + 27);
        fault(KNOWN + "house a 1 2 3;quay z;jack 0;" + "quay a;".repeat(4), 2, k + 28 + 21);
        fault(KNOWN + "quay z;".repeat(5), 2, k + 28);
        fault(KNOWN + "quay z;?", 1, k + 7);
        // 1 and 2 by their places.
        fault(KNOWN + "quay a;".repeat(5) + "?", 2, k + 28);
        fault(KNOWN + "quay a;".repeat(4) + "?quay a;", 1, k + 28);
        fault("due=(((((((?", 2, 10);
        fault("due=((((((?(", 1, 10);
        // Of one place the least: what does not fit, as the 401st.
        fault(pad(400) + "a", 1, pad(400).length());
        fault(pad(400) + ";", 1, pad(400).length());
        fault(pad(400) + "12345", 1, pad(400).length());
        fault(pad(400) + "house", 2, pad(400).length());
        fault(pad(399) + "quay(", 1, pad(399).length() + 4);
        fault(pad(399) + "quay", 1, pad(399).length() + 4);
        fault(pad(391) + "due=((((((" + "(", 1 + 1, pad(391).length() + 10);
        fault(pad(392) + "due=((((((" + "(", 1 + 1, pad(392).length() + 10);
    }

    private static void lastTold() {
        StiltTown town = town("crews 3;crews 7;jack 5;jack 60;jack 6;tide=3;tide=4;due=3;due=4;sway=3;sway=4;house a 1 2 3;");
        due("crews", town.count(5), 7);
        due("jack", town.count(6), 6);
        due("tide", town.tide(0), 4);
        due("due", town.house(0, 5), 4);
        due("sway", town.sway(0, 0), 4);
        String houses = "house a 1 2 3;house b 1 2 3;house c 1 2 3;office o 4;office p 4;";
        StiltTown one = town(houses + "in a o;in a p;");
        due("o", one.holder(0), -2);
        due("p", one.holder(1), 0);
        StiltTown other = town(houses + "in a o;in b o;in c o;");
        due("o", other.holder(0), 2);
        due("a", other.house(0, 3), -2);
        due("b", other.house(1, 3), -2);
        due("c", other.house(2, 3), 0);
        StiltTown ring = town(houses + "in a o;in b p;in a p;in b o;");
        due("o", ring.holder(0), 1);
        due("p", ring.holder(1), 0);
        StiltTown again = town(houses + "in a o;in a o;");
        due("o", again.holder(0), 0);
        StiltTown chain = town(houses + "in a o;in b o;in b p;");
        due("o", chain.holder(0), -2);
        due("p", chain.holder(1), 1);
        due("a", chain.house(0, 3), -2);
    }

    private static boolean holds(String cond) {
        return town("house a 7 50 3;sway=30+wind;bad if " + cond + ";").law(2) == 1;
    }

    private static void conds() {
        // x is 7: each sign with a number below, alike and above.
        String[] signs = {"==", "!=", "<", "<="};
        boolean[][] hold = {{false, true, false}, {true, false, true}, {false, false, true}, {false, true, true}};
        for (int i = 0; i < signs.length; i++) {
            for (int number = 6; number <= 8; number++) {
                boolean due = hold[i][number - 6];
                String lit = "x" + signs[i] + number;
                due(lit, holds(lit), due);
                due("not " + lit, holds("not " + lit), !due);
                due("not not " + lit, holds("not not " + lit), due);
            }
        }
        String[] lits = {"x==8", "x==7"};
        for (int bits = 0; bits < 16; bits++) {
            boolean a = (bits & 1) != 0;
            boolean b = (bits & 2) != 0;
            boolean c = (bits & 4) != 0;
            boolean d = (bits & 8) != 0;
            String[] l = {lits[bits & 1], lits[bits >> 1 & 1], lits[bits >> 2 & 1], lits[bits >> 3]};
            due("or, and", holds(l[0] + " or " + l[1] + " and " + l[2] + " or " + l[3]), a || b && c || d);
            due("and, or", holds(l[0] + " and " + l[1] + " or " + l[2] + " and " + l[3]), a && b || c && d);
            due("and, and", holds(l[0] + " and " + l[1] + " and " + l[2] + " and " + l[3]), a && b && c && d);
            due("or, or", holds(l[0] + " or " + l[1] + " or " + l[2] + " or " + l[3]), a || b || c || d);
            due("not binds most", holds("not " + l[0] + " and " + l[1] + " or not " + l[2] + " and not not " + l[3]), !a && b || !c && d);
        }
    }

    private static void wraps() {
        String least = "256*256*256*128";
        String[] hold = {
            least + "<0", "0<" + least + "-1", least + "-1+1<0", "0-2-(" + least + "-1)==" + least + "-1",
            "0-" + least + "<0", "(" + least + ")*(0-1)==" + least, "(" + least + ")/(0-1)==" + least,
            "256*256*(256*256)==0", "(256*256+1)*(256*256+1)==2*256*256+1", "(" + least + "-1)*2==0-2",
            least + "+" + least + "==0", "9999*9999*9999*9999==(9999*9999)*(9999*9999)", "9999*9999*22<0",
            least + "==0-" + least, "(" + least + "-1)/(0-1)==" + least + "+1"};
        for (String cond : hold) {
            due(cond, holds(cond), true);
        }
        due("held only at last", town("tide=" + least + "-1+" + least + "-1+50;").tide(0), 48);
        due("held only at last", town("tide=" + least + ";").tide(0), 0);
        due("held only at last", town("tide=" + least + "-1;").tide(0), 99);
        StiltTown town = town("house a 1 2 3;house b 1 2 3;stair a b 99;falls if gone*(" + least + ")<0;due=" + least + "*2+6;sway=" + least + "*3;");
        due("due", town.house(0, 5), 6);
        due("sway", town.sway(0, 0), 0);
        due("falls", town.chain(0, 0, 0), 2);
    }

    private static void rounds() {
        String[] hold = {"7/2==3", "(0-7)/2==0-3", "7/(0-2)==0-3", "(0-7)/(0-2)==3", "(0-1)/2==0", "1/(0-2)==0", "0/5==0", "0/(0-5)==0",
            "6/3==2", "(0-6)/3==0-2", "9999/9999==1", "9998/9999==0", "20/3/2==3", "20/(3/2)==20", "7*3/2==10", "7/2*3==9"};
        for (String cond : hold) {
            due(cond, holds(cond), true);
        }
        due("tide", town("tide=9+(0-9)/2;").tide(0), 5);
    }

    private static void litsByNought() {
        for (String nought : new String[] {"1/0", "0/0", "0*(3/(x-7))", "5+1/(2-2)-5", "((1/0))", "1/(1/0)", "1/(x/8)", "0/0/0", "x/(height-50)"}) {
            for (String compare : new String[] {"==", "!=", "<", "<="}) {
                for (String lit : new String[] {nought + compare + "0", "0" + compare + nought, nought + compare + nought, nought + compare + "1"}) {
                    due(lit, holds(lit), false);
                    due("not " + lit, holds("not " + lit), true);
                    due("not not " + lit, holds("not not " + lit), false);
                    due("not not not " + lit, holds("not not not " + lit), true);
                    due(lit + " or true", holds(lit + " or x==7"), true);
                    due("true or " + lit, holds("x==7 or " + lit), true);
                    due(lit + " and true", holds(lit + " and x==7"), false);
                    due("true and " + lit, holds("x==7 and " + lit), false);
                    due("true and not " + lit, holds("x==7 and not " + lit + " and x==7"), true);
                    due(lit + " or not true", holds(lit + " or not x==7"), false);
                }
            }
        }
        due("not of a LIT without", holds("not 1/1==1"), false);
        StiltTown town = town("house a 1 2 3;house b 1 2 3;house c 1 2 3;stair a b 1;stair b c 1;falls if 2/gone==2;");
        due("only those with one gone fall", town.chain(0, 0, 0), 3);
        due("one by one", town.chain(0, 0, 12), 2);
        due("not, with none gone", town("house a 1 2 3;house b 1 2 3;falls if not 2/gone==2;").chain(0, 0, 0), 2);
    }

    private static void sumsByNought() {
        String[] none = {"50+1/(hour-3)", "1/(hour-3)+50", "50+(1/(hour-3))", "50+0*(9/(hour-3))", "(50+(2+(3+1/(hour-3))))",
            "50/(hour-3)*0+50", "50-0/(hour-3)", "50+(hour-3)/(hour-3)"};
        int[] four = {51, 51, 51, 50, 56, 50, 50, 51};
        for (int i = 0; i < none.length; i++) {
            StiltTown town = town("house a 1 20 3;tide=" + none[i] + ";");
            due(none[i], town.tide(3), 0);
            due(none[i], town.tide(4), four[i]);
            due(none[i] + " wets none", town.wet(3), 0);
            due(none[i] + " wets", town.wet(4), 1);
        }
        StiltTown town = town("house a 7 20 3;house b 8 20 3;due=20+5/(x-7);sway=30+9/(wind-4);");
        due("due", town.house(0, 5), 0);
        due("due", town.house(1, 5), 25);
        due("untrue", town.law(3), 3);
        due("sway", town.sway(0, 4), 0);
        due("sway", town.sway(0, 5), 39);
        StiltTown bad = town("house a 7 20 3;sway=30+9/wind;bad if sway==0;falls if sway==0;house b 7 20 3;");
        due("sway of a bad RULE is 0 as a whole", bad.law(2), 2);
        due("sway of a falls RULE is 0 as a whole", bad.chain(0, 0, 0), 2);
        due("but with wind it isn't", bad.chain(0, 1, 0), 1);
    }

    private static void varsElse() {
        String all = "height+rank+load+x+hour+month+wind+gone+sway";
        String house = "house a 7 40 3;office o 11;in a o;house b 7 40 3;stair a b 99;";
        StiltTown tide = town(house + "tide=" + all + ";");
        StiltTown due = town(house + "due=" + all + ";");
        StiltTown sway = town(house + "sway=" + all + ";");
        StiltTown bad = town(house + "sway=wind+5;bad if " + all + "==40+11+3+7+2+5;");
        StiltTown falls = town(house + "sway=wind+5;falls if " + all + "==40+3+7+2+9+1+14;");
        for (StiltTown town : new StiltTown[] {tide, due, sway, bad, falls}) {
            town.months(2);
        }
        due("tide: hour, month", tide.tide(4), 6);
        due("due: rank, load, x", due.house(0, 5), 21);
        due("sway: height, rank, load, x, month, wind", sway.sway(0, 9), 72);
        due("bad: its VARS, month, sway", bad.law(4), 1);
        due("falls: its VARS, month, wind, sway, gone", falls.chain(0, 9, 11), 1);
        StiltTown none = town(house + "sway=sway+gone+hour+1;");
        due("sway is not in itself", none.sway(0, 0), 1);
        due("nor a second time", none.sway(0, 0), 1);
        due("nor what a chain left", none.chain(0, 50, 0) + none.sway(0, 0), 2);
        StiltTown after = town(house + "tide=sway+gone+wind+height;due=height+gone+hour;sway=wind;falls if gone==1;");
        after.chain(0, 70, 0);
        due("nor what a chain left in tide", after.tide(0), 0);
        after.tide(20);
        due("nor what tide left in due", after.house(1, 5), 0);
    }

    private static void held() {
        int[][] edges = {{-9999, 0}, {-1, 0}, {0, 0}, {1, 1}, {98, 98}, {99, 99}, {100, 99}, {9999, 99}};
        for (int[] edge : edges) {
            String number = edge[0] < 0 ? "0-" + -edge[0] : "" + edge[0];
            StiltTown town = town("house a 1 2 3;tide=" + number + ";due=" + number + ";sway=" + number + ";bad if sway==" + edge[1] + ";");
            due("tide " + number, town.tide(0), edge[1]);
            due("due " + number, town.house(0, 5), edge[1]);
            due("sway " + number, town.sway(0, 0), edge[1]);
            due("bad by what sway is held to", town.law(2), 1);
        }
        StiltTown without = town("house a 1 2 3;office o 99;in a o;house b 1 2 3;");
        due("tide without", without.tide(0), 0);
        due("due without: rank", without.house(0, 5), 99);
        due("due without: rank of none", without.house(1, 5), 0);
        due("sway without", without.sway(0, 99), 0);
    }
}
