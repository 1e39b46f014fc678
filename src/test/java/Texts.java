import java.util.ArrayList;
import java.util.List;
import java.util.Random;

/** Texts by chance: right ones, and ones with a fault somewhere. */
final class Texts {
    private static final String[] NAMES = {"a", "b", "c", "d", "e", "f", "g", "h", "i", "j", "k", "l", "m", "n", "o", "p",
        "q", "longname", "zz"};
    private static final String[] OFFICES = {"oa", "ob", "oc", "od", "oe", "of", "og", "oh", "oi", "oj", "ok", "ol", "om"};
    private static final String[] VARS = {"height", "rank", "load", "x", "hour", "month", "wind", "gone", "sway"};
    private static final String[] PIECES = {"house", "office", "in", "stair", "ground", "quay", "wood", "crews", "jack", "tide",
        "due", "sway", "falls", "bad", "if", "or", "and", "not", "height", "x", "gone", "a", "b", "oa", "ob", "zz",
        "toolongname", "0", "7", "41", "100", "9999", "12345", ";", "=", "+", "-", "*", "/", "==", "!=", "<", "<=", "(", ")",
        ".", "!", ">", "A", "\u0000", "\u00e9", " ", "\t", "\n", "\r", "\f", "===", "<=="};

    private final Random random;

    Texts(Random random) {
        this.random = random;
    }

    private int upTo(int most) {
        return random.nextInt(most + 1);
    }

    private String blank() {
        switch (upTo(9)) {
            case 0: return "\n";
            case 1: return "  ";
            case 2: return "\t";
            case 3: return "\r";
            default: return " ";
        }
    }

    /** Heights that lie close together let more doors be reached. */
    String right(int spread) {
        List<String> tells = new ArrayList<>();
        int houses = upTo(9) == 0 ? upTo(1) : 2 + upTo(14);
        for (int h = 0; h < houses; h++) {
            tells.add("house " + NAMES[h] + " " + upTo(40) + " " + upTo(spread) + " " + (1 + upTo(8)));
        }
        int offices = upTo(9) == 0 ? 0 : 1 + upTo(11);
        for (int o = 0; o < offices; o++) {
            tells.add("office " + OFFICES[o] + " " + upTo(spread));
        }
        for (int i = upTo(12); i > 0 && houses > 0 && offices > 0; i--) {
            tells.add("in " + NAMES[upTo(houses - 1)] + blank() + OFFICES[upTo(offices - 1)]);
        }
        for (int i = upTo(12); i > 0 && houses > 0; i--) {
            int from = upTo(houses - 1);
            int to = upTo(houses - 1);
            String end = from == to || upTo(3) == 0 ? "ground" : NAMES[to];
            tells.add("stair " + NAMES[from] + " " + end + " " + upTo(99 - upTo(99)));
        }
        for (int i = upTo(4); i > 0 && houses > 0; i--) {
            tells.add("quay " + NAMES[upTo(houses - 1)]);
        }
        for (int i = upTo(8); i > 0; i--) {
            int length = 1 + (upTo(2) == 0 ? upTo(59) : upTo(11));
            tells.add("wood " + length + " " + (upTo(3) == 0 ? 99 - upTo(3) : upTo(12)));
        }
        if (upTo(1) == 0) {
            tells.add("crews " + (1 + upTo(8)));
        }
        if (upTo(2) > 0) {
            tells.add("jack " + (upTo(1) == 0 ? 99 : 1 + upTo(98)));
        }
        laws(tells);
        StringBuilder text = new StringBuilder();
        for (String tell : tells) {
            text.append(tell).append(upTo(5) == 0 ? blank() : "").append(';').append(upTo(5) == 0 ? blank() : "");
        }
        return text.toString();
    }

    private void laws(List<String> tells) {
        int kind = upTo(7);
        if (kind == 0) {
            tells.add("tide=" + sum(0));
        } else if (kind < 4) {
            tells.add("tide=(hour-" + upTo(24) + ")*" + (1 + upTo(3)) + "-month");
        }
        kind = upTo(5);
        if (kind == 0) {
            tells.add("due=" + sum(0));
        } else if (kind < 3) {
            tells.add("due=rank+load/" + upTo(3));
        } else if (kind == 3) {
            tells.add("due=x");
        }
        kind = upTo(4);
        if (kind == 0) {
            tells.add("sway=" + sum(0));
        } else if (kind < 4) {
            tells.add("sway=height*wind/" + (1 + upTo(60)) + "+x/8+month");
        }
        for (int i = upTo(4); i > 0; i--) {
            tells.add("falls if " + (upTo(1) == 0 ? cond() : upTo(60) + "<sway and " + upTo(3) + "<gone or gone==" + upTo(4)));
        }
        for (int i = upTo(4); i > 0; i--) {
            tells.add("bad if " + cond());
        }
    }

    private String cond() {
        StringBuilder text = new StringBuilder(lit());
        for (int i = upTo(3); i > 0; i--) {
            text.append(upTo(1) == 0 ? " or " : " and ").append(lit());
        }
        return text.toString();
    }

    private String lit() {
        String not = upTo(3) == 0 ? "not " : upTo(9) == 0 ? "not not " : "";
        return not + sum(4) + new String[] {"==", "!=", "<", "<=", " < "}[upTo(4)] + sum(4);
    }

    private String sum(int depth) {
        StringBuilder text = new StringBuilder(part(depth));
        for (int i = upTo(2); i > 0; i--) {
            text.append(upTo(1) == 0 ? "+" : "-").append(part(depth));
        }
        return text.toString();
    }

    private String part(int depth) {
        StringBuilder text = new StringBuilder(unit(depth));
        for (int i = upTo(3) - 1; i > 0; i--) {
            text.append(upTo(1) == 0 ? "*" : "/").append(unit(depth));
        }
        return text.toString();
    }

    private String unit(int depth) {
        if (depth < 7 && upTo(5) == 0) {
            return "(" + sum(depth + 1) + ")";
        }
        if (upTo(1) == 0) {
            return VARS[upTo(VARS.length - 1)];
        }
        return "" + (upTo(5) == 0 ? upTo(9999) : upTo(12));
    }

    /** A right text with a few pieces put in, taken out or put twice. */
    String wrong(int spread) {
        String text = right(spread);
        for (int i = upTo(2); i >= 0; i--) {
            int place = upTo(text.length());
            int end = Math.min(text.length(), place + upTo(3));
            String piece = upTo(3) == 0 ? "" : PIECES[upTo(PIECES.length - 1)];
            text = text.substring(0, place) + piece + text.substring(end);
        }
        if (upTo(5) == 0) {
            text = text.substring(0, upTo(text.length()));
        }
        return text;
    }

    /** Texts with too much of something. */
    String full() {
        StringBuilder text = new StringBuilder();
        int kind = upTo(9);
        for (int i = upTo(19); i > 0; i--) {
            text.append("house ").append(NAMES[upTo(NAMES.length - 1)]).append(" 1 1 1;");
        }
        for (int i = upTo(20); i > 0; i--) {
            switch (kind) {
                case 0: text.append("in a oa;"); break;
                case 1: text.append("stair a ground 3;"); break;
                case 2: text.append("quay a;"); break;
                case 3: text.append("wood 3 4;"); break;
                case 4: text.append("falls if x<").append("(".repeat(upTo(7))).append("1").append(")".repeat(upTo(7))).append(";"); break;
                case 5: text.append("bad if not x==4 or x<5;"); break;
                case 6: text.append("office ").append(OFFICES[upTo(OFFICES.length - 1)]).append(" 3;"); break;
                case 7: text.append("tide=").append("1+".repeat(upTo(40))).append("hour;"); break;
                case 8: text.append("crews ").append(upTo(10)).append(";jack ").append(upTo(110)).append(";"); break;
                default: text.append("due=").append("(".repeat(upTo(8))).append("x").append(")".repeat(upTo(8))).append(";"); break;
            }
        }
        return text.length() > 2000 ? text.substring(0, 2000) : text.toString();
    }

    /** Pieces in any order. */
    String pieces() {
        StringBuilder text = new StringBuilder();
        for (int i = upTo(30); i > 0; i--) {
            text.append(PIECES[upTo(PIECES.length - 1)]).append(upTo(2) == 0 ? "" : " ");
        }
        return text.toString();
    }
}
