import com.sun.management.ThreadMXBean;
import java.lang.management.ManagementFactory;

/** Runs of 512 calls that make as much as they can stay far below the room of 7.3 million elements. */
public final class RoomTest {
    /** A million elements of four bytes. */
    private static final long MOST = 4000000;
    /** So that many objects could be made in one run. */
    private static final long MOST_OF_A_NEW_ONE = 40000;

    private final TraceJudge judge = new TraceJudge();
    private int calls = 0;

    public static void main(String[] args) {
        measured("to be ready", 0);
        Checks.that("a new object", measured("a new object", 0) < MOST_OF_A_NEW_ONE);
        Checks.that("big sequents kept", measured("big sequents kept", 1) < MOST);
        Checks.that("big sequents put in", measured("big sequents put in", 2) < MOST);
        Checks.that("many axioms", measured("many axioms", 3) < MOST);
        Checks.that("types put in", measured("types put in", 4) < MOST);
        Checks.end();
    }

    private static long measured(String what, int kind) {
        ThreadMXBean threads = (ThreadMXBean) ManagementFactory.getThreadMXBean();
        long before = threads.getCurrentThreadAllocatedBytes();
        RoomTest run = new RoomTest();
        switch (kind) {
            case 1: run.bigKept(); break;
            case 2: run.bigPutIn(); break;
            case 3: run.axioms(); break;
            case 4: run.typesPutIn(); break;
            default: break;
        }
        long bytes = threads.getCurrentThreadAllocatedBytes() - before;
        System.out.println(what + ": " + bytes + " bytes in " + run.calls + " calls, " + run.judge.size() + " sequents");
        return bytes;
    }

    private int judged(int... numbers) {
        for (int n : numbers) {
            judge.say(n);
        }
        calls += numbers.length + 1;
        return judge.judge();
    }

    /** f p p of truths, that twice for p, and so on: 5 symbols, 13, and so on. The number of the last. */
    private int doubled(int times) {
        judged(1, 0, 1, 2, 0, 0, 1, 2, 0, 1, 2, 0, 2, 2, 0, 0);
        int last = 1;
        int count = 2;
        for (int i = 0; i < times; i++) {
            judged(4, 0, last, 4, count, last);
            last = count + 1;
            count += 2;
        }
        return last;
    }

    private void bigKept() {
        int big = doubled(8);
        Checks.same("a big sequent", judged(10, big), 1);
        while (calls < 480) {
            Checks.same("made again", judged(19, 0, 0, 19, 1, 0, 19, 2, 0, 19, 3, 0, 19, 4, 0, 19, 5, 0), 6);
            judge.keep(6, 0);
            calls++;
        }
    }

    private void bigPutIn() {
        int big = doubled(9);
        Checks.same("assumed", judged(15, big, 15, 1), 2);
        while (calls < 500) {
            Checks.same("put in", judged(18, 1, 1, big, 18, 0, 1, 1), 2);
            judge.cut(2);
            calls++;
        }
    }

    private void axioms() {
        int made = 0;
        while (calls < 505) {
            made += judged(22, 2);
            if (made == 20) {
                judge.cut(0);
                calls++;
                made = 0;
            }
        }
    }

    /** Of each sequent, one with 'a to 'a for 'a; then both make the next one. */
    private void typesPutIn() {
        while (calls < 440) {
            judged(0, 0, 1, 2, 0, 0, 22, 1);
            for (int n = 0; n < 10; n += 2) {
                judged(19, n, 1, 0, 1, 17, n, n + 1);
            }
            judge.cut(0);
            calls++;
        }
    }
}
