/** Puts a text onto the tape of a town, twenty bytes at a time. */
final class Tape {
    private Tape() {
    }

    /** The five numbers of the twenty bytes from a place on; blanks behind the text's end. */
    static int[] five(String text, int from) {
        int[] five = new int[5];
        for (int i = 0; i < 20; i++) {
            int sign = from + i < text.length() ? text.charAt(from + i) : ' ';
            five[i / 4] = five[i / 4] << 8 | sign & 255;
        }
        return five;
    }

    /** How many blanks are to be taken back behind a text of this length. */
    static int over(int length) {
        return (20 - length % 20) % 20;
    }

    static void put(StiltTown town, String text) {
        for (int from = 0; from < text.length(); from += 20) {
            int[] five = five(text, from);
            town.feed(five[0], five[1], five[2], five[3], five[4]);
        }
        town.back(over(text.length()));
    }

    static int read(StiltTown town, String text) {
        put(town, text);
        return town.read();
    }
}
