import com.sun.management.ThreadMXBean;
import java.lang.management.ManagementFactory;
import java.util.Random;

/** Calls make next to nothing: all rows are made by the constructor and used again. */
final class RoomTest {
    private static final long BYTES_A_CALL = 64;

    private RoomTest() {
    }

    public static void main(String[] args) {
        ThreadMXBean threads = (ThreadMXBean) ManagementFactory.getThreadMXBean();
        String text = new Texts(new Random(7)).right(60);
        int[][] tape = new int[(text.length() + 19) / 20][];
        for (int i = 0; i < tape.length; i++) {
            tape[i] = Tape.five(text, 20 * i);
        }
        long sum = 0;
        long calls = 0;
        use(new StiltTown(), tape);
        StiltTown town = new StiltTown();
        long before = threads.getThreadAllocatedBytes(Thread.currentThread().getId());
        for (int i = 0; i < 50; i++) {
            sum += use(town, tape);
            calls += tape.length + 45;
        }
        long made = threads.getThreadAllocatedBytes(Thread.currentThread().getId()) - before;
        System.out.println(made + " bytes made by " + calls + " calls (" + sum + ")");
        if (made > BYTES_A_CALL * calls) {
            System.out.println("that is too much");
            System.exit(1);
        }
    }

    private static long use(StiltTown town, int[][] tape) {
        long sum = 0;
        for (int[] f : tape) {
            sum += town.feed(f[0], f[1], f[2], f[3], f[4]);
        }
        sum += town.read() + town.place() + town.house(0, 5) + town.holder(0) + town.months(3) + town.tide(3) + town.wet(3);
        sum += town.reached(3) + town.hours(0) + town.meets(0) + town.cut(0, true, 2) + town.worst(false, 2) + town.law(4);
        sum += town.wood(0) + town.jack(40, 0) + town.work(1, 0, 2) + town.judge() + town.forget() + town.work(0, 0, -1) + town.done();
        sum += town.nights(1) + town.looks(0, 1) + town.light(0) + town.sway(0, 40) + town.chain(0, 40, 0) + town.dread(40);
        sum += town.year(20) + town.posts(10, 20, 3, 2, 9) + town.postAt(10, 20, 3, 2, 9, 0) + town.clear();
        sum += town.vote(0, 0, 1) + town.mark(0, 10, 10) + town.annul(0) + town.votes(0, 1, 2) + town.winner(0, 2) + town.ends(0, 5, 3, 2);
        sum += town.years(18, 40) + town.count(3);
        boolean told = town.give(0, 0) | town.undo() | town.hold(0) | town.restore(0);
        return sum + (told ? 1 : 0);
    }
}
