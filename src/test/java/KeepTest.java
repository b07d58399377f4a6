/** Promise 10: keep is a cut that leaves one of the sequents that go, as the last one. */
public final class KeepTest {
    public static void main(String[] args) {
        keptSequentIsThereAgain();
        keptSequentIsUsedWithNewTerms();
        keepOfTheSameNumber();
        exceptions();
        exceptionsInTheirOrder();
        entriesBehindIt();
        Checks.end();
    }

    private static void keptSequentIsThereAgain() {
        Scribe s = new Scribe();
        s.does("entries and steps", 3, 1, 0, 2, 0, 0, 15, 0, 0, 3, 2, 1, 1, 10, 0, 10, 1);
        Checks.same("keep 2, 1", Compare.keep(s.judge, 2, 1), 0);
        Checks.same("size", s.judge.size(), 2);
        s.conclusion("sequent 0 stays", 0, 1);
        s.conclusion("sequent 2 is number 1", 1, -1, -1, 2, 5, 5);
        s.typeAt("its types are as they were", 1, 3, -4);
        s.typeAt("equality's, too", 1, 2, 2, -4, 2, -4, 0);
        s.hypotheses("it", 1, 0);
        s.fails("term 1 has gone", 10, 1);
        s.fails("type 1 has gone", 2, 0, 1);
        s.does("term 0 is there", 1, 10, 0);
        Checks.same("keep 1, 0", Compare.keep(s.judge, 1, 0), 0);
        Checks.same("size", s.judge.size(), 1);
        s.conclusion("it is number 0", 0, -1, -1, 2, 5, 5);
        s.typeAt("of the same type", 0, 3, -4);
        s.fails("no type is left", 2, 0, 0);
        s.fails("no term is left", 10, 0);
    }

    /** Types that are made anew are the same as those of the sequent that was kept. */
    private static void keptSequentIsUsedWithNewTerms() {
        Scribe s = new Scribe();
        s.does("types that go", 0, 0, 9, 0, 8, 0, 7, 1, 2, 0, 1, 1, 2, 3, 2, 1, 2, 1, 4, 1, 1);
        s.does("sequents", 2, 2, 0, 0, 10, 0, 2, 0, 5, 10, 1);
        Checks.same("keep 1, 0", Compare.keep(s.judge, 1, 0), 0);
        s.typeAt("its type", 0, 3, 2, -9, 2, 2, -10, -9, -8);
        s.does("the type in another order", 0, 1, 1, 0, 7, 0, 8, 0, 9, 1, 2, 3, 2, 1, 2, 4, 1, 1, 2, 2, 5);
        s.does("things, the same variable, and a step of both", 2, 2, 0, 6, 10, 0, 11, 0, 1);
        s.conclusion("x = x", 2, -1, -1, 2, 1, 1);
        s.does("types put in", 1, 19, 0, 1, 8, 0);
        s.typeAt("things for 'b", 3, 3, 2, 1, 2, 2, -10, 1, -8);
        s.typeAt("the kept one is as it was", 0, 3, 2, -9, 2, 2, -10, -9, -8);
    }

    private static void keepOfTheSameNumber() {
        Scribe s = new Scribe();
        s.does("one step, entries behind it", 1, 1, 0, 2, 0, 0, 10, 0, 2, 1, 0);
        Checks.same("keep 0, 0", Compare.keep(s.judge, 0, 0), 0);
        Checks.same("size", s.judge.size(), 1);
        s.conclusion("it is there", 0, -1, -1, 2, 1, 1);
        s.fails("the entries have gone", 10, 0);
        s.does("all anew", 2, 1, 1, 2, 4, 0, 10, 0, 22, 1);
        Checks.same("keep 2, 2", Compare.keep(s.judge, 2, 2), 0);
        Checks.same("size", s.judge.size(), 3);
        s.does("what came before sequent 1 is there", 1, 10, 0);
    }

    private static void exceptions() {
        Scribe s = new Scribe();
        s.does("p = p, p with itself, a definition, and two more", 5,
            1, 0, 2, 0, 0, 6, 0, 0, 5, 0, 1, 10, 0, 15, 0, 20, 2, 10, 0, 15, 0);
        Checks.same("no sequent 5", Compare.keep(s.judge, 5, 3), 1);
        Checks.same("no sequent -1", Compare.keep(s.judge, -1, 3), 1);
        Checks.same("no such sequent", Compare.keep(s.judge, Integer.MAX_VALUE, 3), 1);
        Checks.same("no such sequent", Compare.keep(s.judge, Integer.MIN_VALUE, 3), 1);
        Checks.same("hypotheses", Compare.keep(s.judge, 4, 3), 2);
        Checks.same("a is below n", Compare.keep(s.judge, 3, 4), 3);
        Checks.same("a is far below n", Compare.keep(s.judge, 0, 5), 3);
        Checks.same("n is too high", Compare.keep(s.judge, 3, 6), 3);
        Checks.same("n is too low", Compare.keep(s.judge, 3, -1), 3);
        Checks.same("a definition would go", Compare.keep(s.judge, 3, 2), 3);
        Checks.same("it is the definition", Compare.keep(s.judge, 2, 2), 3);
        Checks.same("a definition is among those that go", Compare.keep(s.judge, 0, 0), 3);
        Checks.same("all are there still", s.judge.size(), 5);
        s.does("and the terms", 1, 10, 2);
        Checks.same("keep 3, 3", Compare.keep(s.judge, 3, 3), 0);
        Checks.same("size", s.judge.size(), 4);
    }

    private static void exceptionsInTheirOrder() {
        Scribe s = new Scribe();
        s.does("p with itself", 1, 1, 0, 2, 0, 0, 15, 0);
        Checks.same("no sequent, n too high", Compare.keep(s.judge, 1, 9), 1);
        Checks.same("hypotheses, n too high", Compare.keep(s.judge, 0, 9), 2);
        Checks.same("hypotheses, a below n", Compare.keep(s.judge, 0, 1), 2);
        Checks.same("hypotheses, n too low", Compare.keep(s.judge, 0, -1), 2);
    }

    private static void entriesBehindIt() {
        Scribe s = new Scribe();
        s.does("a step and another", 2, 1, 0, 2, 0, 0, 10, 0, 2, 1, 0, 10, 1);
        Checks.same("keep 1, 1", Compare.keep(s.judge, 1, 1), 0);
        s.does("entries behind it", 1, 2, 9, 0, 10, 1, 2, 8, 0);
        Checks.same("cut 2", Compare.cut(s.judge, 2), 0);
        s.conclusion("the kept one stays", 1, -1, -1, 2, 5, 5);
        s.fails("what came behind it has gone", 10, 1);
        s.does("what came before sequent 0 has not", 1, 10, 0);
    }
}
