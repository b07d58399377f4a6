/** Promise 1: a new object has no types, terms, sequents, and nothing said; nor has it anything of another's. */
public final class NewObjectTest {
    public static void main(String[] args) {
        isEmpty(new TraceJudge());
        knowsNothingNamed();
        knowsTheFirstConstructorsAndConstants();
        TraceJudge used = new TraceJudge();
        for (int n : new int[] {1, 0, 2, 0, 0, 15, 0, 99}) {
            used.say(n);
        }
        used.judge();
        used.say(5);
        isEmpty(new TraceJudge());
        Checks.same("the used one's size", used.size(), 1);
        Checks.same("the used one's fault", used.fault(), 7);
        Checks.end();
    }

    private static void isEmpty(TraceJudge judge) {
        Checks.same("size", judge.size(), 0);
        Checks.same("fault", judge.fault(), -1);
        Checks.same("hypotheses", Compare.hypotheses(judge, 0), Compare.THROWN);
        Checks.same("symbol", Compare.symbol(judge, 0, -1, 0), Compare.THROWN);
        Checks.same("typeSymbol", Compare.typeSymbol(judge, 0, -1, 0, 0), Compare.THROWN);
        Checks.same("cut 1", Compare.cut(judge, 1), 3);
        Checks.same("cut 0", Compare.cut(judge, 0), 0);
        Checks.same("keep 0 0", Compare.keep(judge, 0, 0), 1);
        Checks.same("judge", judge.judge(), 0);
        Checks.same("fault behind judge", judge.fault(), -1);
    }

    private static void knowsNothingNamed() {
        Scribe s = new Scribe();
        s.fails("no type 0", 2, 0, 0);
        s.fails("no type 0 for a function", 1, 2, 0, 0);
        s.fails("no term 0", 10, 0);
        s.fails("no sequent 0", 11, 0, 0);
        s.fails("no sequent 0 to put types in", 19, 0, 0);
    }

    private static void knowsTheFirstConstructorsAndConstants() {
        Scribe s = new Scribe();
        s.type(1, 0);
        s.type(1, 1);
        s.type(1, 2, 0, 1);
        s.fails("no constructor 3", 1, 3);
        s.type(1, 2, 1, 0);
        s.type(1, 2, 1, 3);
        s.type(1, 2, 3, 1);
        s.term(3, 0, 4);
        s.term(3, 1, 5);
        s.fails("no constant 2", 3, 2, 4);
    }
}
