/**
 * The limits that no run of 512 calls reaches: 1000 sequents, 8000 types and 16000 terms of entries
 * (and 20000 numbers that wait, in SayTest). What later calls answer is free, but the program
 * answers them as the document says.
 */
public final class FarLimitsTest {
    public static void main(String[] args) {
        sequents();
        sequentsOfStep21();
        entryTypes();
        entryTerms();
        Checks.end();
    }

    private static int identity(Scribe s) {
        s.type(1, 0);
        return s.term(5, 0, s.term(6, 0, 0));
    }

    private static void sequents() {
        Scribe s = new Scribe();
        int identity = identity(s);
        for (int i = 0; i < 999; i++) {
            s.step(10, identity);
        }
        s.fails("step 21 would make 1001", 21, 0);
        s.step(20, identity);
        Checks.same("1000", s.judge.size(), 1000);
        s.fails("1001", 10, identity);
        s.fails("1001, a definition", 20, identity);
        Checks.same("the last is there", Compare.hypotheses(s.judge, 999), 0);
        Checks.same("and no other", Compare.hypotheses(s.judge, 1000), Compare.THROWN);
    }

    private static void sequentsOfStep21() {
        Scribe s = new Scribe();
        int identity = identity(s);
        for (int i = 0; i < 998; i++) {
            s.step(10, identity);
        }
        s.step(21, 0);
        Checks.same("1000", s.judge.size(), 1000);
        s.fails("1001", 10, identity);
    }

    private static void entryTypes() {
        Scribe s = new Scribe();
        for (int i = 0; i < 8000; i++) {
            s.say(1, 0);
        }
        s.say(1, 1);
        Checks.same("judge", s.judge.judge(), 0);
        Checks.same("8000 types will do, one more will not", s.judge.fault(), 16000);
        s.fails("nor a type variable", 0, 0);
        s.does("the last one is there", 1, 2, 0, 7999, 15, 0);
        Checks.same("cut", Compare.cut(s.judge, 0), 0);
        s.does("all anew", 0, 1, 0, 2, 0, 0);
    }

    private static void entryTerms() {
        Scribe s = new Scribe();
        s.type(1, 0);
        for (int round = 0; round < 4; round++) {
            for (int i = 0; i < 4000; i++) {
                s.say(2, i, 0);
            }
            Checks.same("terms", s.judge.judge(), 0);
            Checks.same("all did", s.judge.fault(), -1);
        }
        s.fails("term 16000", 2, 0, 0);
        s.fails("nor an abstraction", 5, 0, 0);
        s.step(10, 15999);
        s.fails("still term 16000", 6, 0, 0);
        Checks.same("cut", Compare.cut(s.judge, 0), 0);
        s.does("all anew", 0, 1, 0, 2, 0, 0);
    }
}
