/**
 * Promise 2: say takes any number, and refuses one if 20000 wait. No run of 512 calls gets so far; the
 * program refuses there all the same.
 */
public final class SayTest {
    public static void main(String[] args) {
        takesAnyNumber();
        refusesOneMoreThan20000();
        Checks.end();
    }

    private static void takesAnyNumber() {
        TraceJudge judge = new TraceJudge();
        for (int n : new int[] {0, -1, Integer.MAX_VALUE, Integer.MIN_VALUE, 22}) {
            Checks.that("say " + n, judge.say(n));
        }
        Checks.same("saying makes nothing", judge.size(), 0);
        Checks.same("saying is no fault", judge.fault(), -1);
        Checks.same("judge", judge.judge(), 0);
        Checks.same("fault", judge.fault(), 0);
    }

    /** The last entry would be whole with the number that was refused. */
    private static void refusesOneMoreThan20000() {
        Scribe s = new Scribe();
        // Each of these is taken; the last of them is number 20000.
        s.say(1, 0);
        for (int i = 0; i < 6665; i++) {
            s.say(2, i, 0);
        }
        s.say(10, 6664, 10);
        Checks.that("number 20001 is refused", !s.judge.say(0));
        Checks.that("and again", !s.judge.say(0));
        Checks.same("judge", s.judge.judge(), 1);
        Checks.same("fault", s.judge.fault(), 19999);
        s.conclusion("the step", 0, -1, -1, 2, Scribe.free(6664), Scribe.free(6664));
        Checks.that("then one is taken again", s.judge.say(10));
        Checks.that("and one more", s.judge.say(0));
        Checks.same("and judged", s.judge.judge(), 1);
    }
}
