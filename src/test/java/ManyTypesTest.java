import java.util.Random;

/**
 * Different types, made by the thousand with few entries: compared with the plain Reference, and the
 * places that are left counted by filling them, which takes far more than 512 calls.
 */
public final class ManyTypesTest {
    private final Reference plain = new Reference();
    private final TraceJudge judge = new TraceJudge();

    public static void main(String[] args) {
        new ManyTypesTest().doubling();
        new ManyTypesTest().undoing();
        new ManyTypesTest().keeping();
        Checks.end();
    }

    private void both(int... numbers) {
        for (int n : numbers) {
            judge.say(n);
            plain.say(n);
        }
        Checks.same("judge", judge.judge(), plain.judge());
        Checks.same("fault", judge.fault(), plain.fault);
        Checks.same("size", judge.size(), plain.sequents.size());
    }

    /** Types: 'a, truths, 'a to truths, truths to 'a, things, and 'a to things to things ..; x = x of the last. */
    private void begin() {
        both(0, 0, 1, 0, 1, 2, 0, 1, 1, 2, 1, 0, 1, 1, 1, 2, 0, 4);
        for (int t = 6; t <= 15; t++) {
            both(1, 2, t - 1, 4);
        }
        both(2, 0, 15, 10, 0);
    }

    /** Of the last sequent, two with other types for 'a; then both make the next one, twice as big. */
    private void doubled() {
        int last = plain.sequents.size() - 1;
        both(19, last, 1, 0, 2);
        both(19, last, 1, 0, 3);
        both(17, last + 1, last + 2);
    }

    /** Says new type variables, one more than can have a place. */
    private void fillUp() {
        int left = 8000 - plain.differentTypes();
        for (int i = 0; i <= left; i++) {
            judge.say(0);
            judge.say(1000 + i);
        }
        Checks.same("types alone", judge.judge(), 0);
        Checks.same("as many as are left", judge.fault(), 2 * left);
    }

    private void doubling() {
        begin();
        for (int round = 0; round < 8; round++) {
            doubled();
        }
        Checks.that("thousands of types", plain.differentTypes() > 5000);
        int last = plain.sequents.size() - 1;
        both(19, last, 1, 0, 2);
        Checks.same("too many types", judge.fault(), 0);
        both(19, last, 1, 0, 0);
        Checks.same("no new ones", judge.fault(), -1);
        fillUp();
        for (int a = 0; a < plain.sequents.size(); a++) {
            Compare.sequent(judge, a, plain.sequents.get(a), new Random(a));
        }
    }

    private void undoing() {
        begin();
        for (int round = 0; round < 7; round++) {
            doubled();
            Checks.same("cut", Compare.cut(judge, plain.sequents.size() - 1), plain.cut(plain.sequents.size() - 1));
            both(17, plain.sequents.size() - 2, plain.sequents.size() - 1);
        }
        int half = plain.sequents.size() / 2;
        Checks.same("cut half", Compare.cut(judge, half), plain.cut(half));
        doubled();
        fillUp();
    }

    private void keeping() {
        begin();
        for (int round = 0; round < 7; round++) {
            doubled();
            int last = plain.sequents.size() - 1;
            Checks.same("keep", Compare.keep(judge, last, last - 2), plain.keep(last, last - 2));
        }
        int last = plain.sequents.size() - 1;
        Checks.same("keep the last alone", Compare.keep(judge, last, 0), plain.keep(last, 0));
        Compare.sequent(judge, 0, plain.sequents.get(0), new Random(1));
        begin();
        both(17, 0, 1);
        fillUp();
    }
}
