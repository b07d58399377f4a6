/** Promise 9: cut takes sequents away, and the types and terms that came behind the last one left. */
public final class CutTest {
    public static void main(String[] args) {
        entriesGoWithSequents();
        cutAtTheEnd();
        wrongNumbers();
        definitionsStay();
        whatWasSaidStays();
        Checks.end();
    }

    private static void entriesGoWithSequents() {
        Scribe s = new Scribe();
        s.does("before the first step", 0, 1, 0, 2, 0, 0);
        s.does("steps and entries between", 2, 15, 0, 2, 1, 0, 1, 1, 15, 1, 2, 2, 1, 0, 0);
        Checks.same("cut 1", Compare.cut(s.judge, 1), 0);
        Checks.same("size", s.judge.size(), 1);
        s.conclusion("sequent 0 stays", 0, 1);
        s.hypotheses("sequent 1 has gone", 1, Compare.THROWN);
        s.fails("term 1 has gone", 15, 1);
        s.fails("type 1 has gone", 2, 0, 1);
        s.does("term 0 is there", 1, 15, 0);
        s.does("the next numbers are 1", 1, 0, 5, 2, 7, 1, 10, 1);
        s.conclusion("with term 1", 2, -1, -1, 2, 29, 29);
        s.typeAt("of type 1", 2, 3, -6);
        Checks.same("cut 0", Compare.cut(s.judge, 0), 0);
        Checks.same("size 0", s.judge.size(), 0);
        s.fails("no type is left", 2, 0, 0);
        s.fails("no term is left", 15, 0);
        s.does("all anew", 1, 1, 1, 2, 3, 0, 10, 0);
        s.typeAt("of things now", 0, 3, 1);
    }

    /** No sequent goes, but what came behind the last does. */
    private static void cutAtTheEnd() {
        Scribe s = new Scribe();
        s.does("one step, entries around it", 1, 1, 0, 2, 0, 0, 15, 0, 2, 1, 0, 1, 1);
        Checks.same("cut 1", Compare.cut(s.judge, 1), 0);
        Checks.same("size", s.judge.size(), 1);
        s.fails("term 1 has gone", 15, 1);
        s.fails("type 1 has gone", 2, 0, 1);
        s.does("term 0 is there", 1, 15, 0);
        Scribe none = new Scribe();
        none.does("no step", 0, 1, 0, 2, 0, 0);
        Checks.same("cut 0", Compare.cut(none.judge, 0), 0);
        none.fails("type 0 has gone", 2, 0, 0);
        none.fails("term 0 has gone", 15, 0);
    }

    private static void wrongNumbers() {
        Scribe s = new Scribe();
        s.does("two steps", 2, 1, 0, 2, 0, 0, 15, 0, 15, 0, 2, 1, 0);
        for (int n : new int[] {-1, 3, 100, Integer.MIN_VALUE, Integer.MAX_VALUE}) {
            Checks.same("cut " + n, Compare.cut(s.judge, n), 3);
            Checks.same("size", s.judge.size(), 2);
        }
        s.does("nothing has gone", 1, 15, 1);
    }

    private static void definitionsStay() {
        Scribe s = new Scribe();
        s.does("a step, a definition, a step", 3, 1, 0, 6, 0, 0, 5, 0, 0, 10, 1, 20, 1, 10, 1);
        Checks.same("before the definition", Compare.cut(s.judge, 0), 3);
        Checks.same("at the definition", Compare.cut(s.judge, 1), 3);
        Checks.same("behind it", Compare.cut(s.judge, 2), 0);
        Checks.same("size", s.judge.size(), 2);
        s.does("a constructor and a step", 2, 21, 0, 10, 1);
        Checks.same("size", s.judge.size(), 5);
        Checks.same("at its first sequent", Compare.cut(s.judge, 2), 3);
        Checks.same("at its second one", Compare.cut(s.judge, 3), 3);
        Checks.same("behind it", Compare.cut(s.judge, 4), 0);
        Checks.same("size", s.judge.size(), 4);
        s.does("constant, constructor and entries are there", 1, 1, 3, 1, 2, 0, 0, 3, 2, 2, 10, 2);
        s.conclusion("constant 2", 4, -1, -1, 2, 10, 10);
        s.fails("a definition that will not do", 20, 0);
        Checks.same("does not hold either", Compare.cut(s.judge, 4), 0);
    }

    private static void whatWasSaidStays() {
        Scribe s = new Scribe();
        s.does("a step", 1, 1, 0, 2, 0, 0, 15, 0);
        s.say(1, 0, 2, 5, 0);
        Checks.same("cut 0", Compare.cut(s.judge, 0), 0);
        s.say(15, 0);
        Checks.same("judge", s.judge.judge(), 1);
        s.conclusion("of what was said before and behind", 0, 21);
    }
}
