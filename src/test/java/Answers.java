/** Counts the answers that are asked and those that are not as due; tests by hand are below it. */
abstract class Answers {
    static String promise = "";
    private static int wrong = 0;
    private static int asked = 0;

    static void due(String call, long got, long want) {
        asked++;
        if (got != want) {
            wrong++;
            System.out.println(promise + ": " + call + " answered " + got + ", due is " + want);
        }
    }

    static void due(String call, boolean got, boolean want) {
        due(call, got ? 1 : 0, want ? 1 : 0);
    }

    /** A town out of a text that has to be right. */
    static StiltTown town(String text) {
        StiltTown town = new StiltTown();
        due("read " + text, Tape.read(town, text), 0);
        return town;
    }

    /** What a new town answers to a text: its FAULT and the place of it. */
    static void fault(String text, int number, int place) {
        StiltTown town = new StiltTown();
        due("read " + text, Tape.read(town, text), number);
        due("place " + text, town.place(), place);
    }

    static void end() {
        System.out.println(asked + " answers asked, " + wrong + " wrong");
        if (wrong != 0) {
            System.exit(1);
        }
    }
}
