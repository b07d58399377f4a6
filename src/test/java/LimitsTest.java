/** Promise 3: each limit holds just as far as the document says. */
public final class LimitsTest {
    public static void main(String[] args) {
        typeSymbols();
        typeHeight();
        typesOfTerms();
        typesThatStepsMake();
        termSymbols();
        termHeight();
        heightOfHypotheses();
        hypotheses();
        symbolsOfSequents();
        alikeHypothesesCountOnce();
        sequents();
        entries();
        differentTypes();
        differentTypesOfSequents();
        constants();
        constructors();
        Checks.end();
    }

    /** A type of so many symbols, an odd number, and as low as can be; type 0 has to be truths. */
    private static int typeOf(Scribe s, int symbols) {
        if (symbols == 1) {
            return 0;
        }
        int half = (symbols - 1) / 2;
        int first = half % 2 == 1 ? half : half - 1;
        int from = typeOf(s, first);
        return s.function(from, typeOf(s, symbols - 1 - first));
    }

    /** Truths to truths to .., of that height; type 0 has to be truths. */
    private static int typeHigh(Scribe s, int height) {
        int t = 0;
        for (int h = 2; h <= height; h++) {
            t = s.function(0, t);
        }
        return t;
    }

    /** Makes constructor 3, which takes one type. */
    private static void takeOne(Scribe s) {
        int a = s.type(0, 0);
        int identity = s.term(5, a, s.term(6, 0, a));
        s.step(21, s.step(10, identity));
    }

    private static void typeSymbols() {
        Scribe s = new Scribe();
        s.type(1, 0);
        takeOne(s);
        int t199 = typeOf(s, 199);
        int t200 = s.type(1, 3, t199);
        s.fails("201 symbols", 1, 3, t200);
        s.fails("201 symbols, of a function", 1, 2, t199, 0);
        s.fails("203 symbols", 1, 2, typeOf(s, 101), typeOf(s, 101));
        s.term(2, 0, t200);
    }

    private static void typeHeight() {
        Scribe s = new Scribe();
        s.type(1, 0);
        int t24 = typeHigh(s, 24);
        s.fails("height 25", 1, 2, 0, t24);
        s.fails("height 25 on the other side", 1, 2, t24, 0);
        int x = s.term(2, 0, t24);
        s.fails("an abstraction of height 25", 5, 0, x);
    }

    private static void typesOfTerms() {
        Scribe s = new Scribe();
        s.type(1, 0);
        int t197 = typeOf(s, 197);
        int x = s.term(2, 0, t197);
        s.term(5, 0, x);
        int t199 = typeOf(s, 199);
        s.fails("an abstraction of 201 symbols", 5, 0, s.term(2, 0, t199));
        s.fails("an abstraction over 199", 5, t199, s.term(2, 0, 0));
    }

    private static void typesThatStepsMake() {
        Scribe s = new Scribe();
        s.type(1, 0);
        int low = s.term(2, 0, typeHigh(s, 22));
        int high = s.term(2, 0, typeHigh(s, 23));
        s.step(10, low);
        s.fails("equality of height 25", 10, high);
        takeOne(s);
        int t97 = typeOf(s, 97);
        int t98 = s.type(1, 3, t97);
        s.step(10, s.term(2, 0, t98));
        s.fails("equality of 201 symbols", 10, s.term(2, 0, typeOf(s, 99)));
        int e = s.step(10, s.term(2, 0, t97));
        s.fails("an abstraction's equality", 13, s.term(2, 0, 0), e);
        int a = s.type(0, 0);
        int pair = s.function(a, a);
        int xx = s.step(10, s.term(2, 0, a));
        int ff = s.step(10, s.term(2, 0, pair));
        s.step(19, xx, 1, 0, t98);
        s.fails("types put in make 201 symbols", 19, ff, 1, 0, typeOf(s, 49));
        s.step(19, ff, 1, 0, typeOf(s, 47));
        s.step(19, ff, 1, 0, typeHigh(s, 21));
        s.fails("types put in make height 25", 19, ff, 1, 0, typeHigh(s, 22));
    }

    private static void termSymbols() {
        Scribe s = new Scribe();
        s.beginTruths();
        int t3999 = s.termOf(3999);
        int t4000 = s.term(5, 0, t3999);
        s.fails("4001 symbols", 5, 0, t4000);
        s.fails("4001 symbols, of an application", 4, 1, t3999);
        s.fails("an equation of far too many", 10, t4000);
        int t1998 = s.term(5, 0, s.termOf(1997));
        int a = s.step(10, t1998);
        Checks.same("3999 symbols: the last", Compare.symbol(s.judge, a, -1, 3998), 1);
        s.fails("an equation of 4001", 10, s.termOf(1999));
        int redex = s.term(4, t1998, 0);
        int b = s.step(14, redex);
        Checks.same("4000 symbols: the last", Compare.symbol(s.judge, b, -1, 3999), 1);
        Checks.same("4000 symbols: none behind", Compare.symbol(s.judge, b, -1, 4000), Compare.THROWN);
        s.fails("4002", 14, s.term(4, s.term(5, 0, s.termOf(1999)), 0));
        int c = s.step(15, t3999);
        Checks.same("3999 symbols", Compare.symbol(s.judge, c, 0, 3998), 1);
        int d = s.step(15, s.term(4, 1, 0));
        s.fails("a term put in makes 4001", 18, d, 0, t3999);
        s.step(18, d, 0, s.termOf(1501));
    }

    private static void termHeight() {
        Scribe s = new Scribe();
        s.beginTruths();
        int x = 0;
        int t60 = 0;
        int t118 = 0;
        int t119 = 0;
        for (int h = 2; h <= 120; h++) {
            x = s.term(4, 1, x);
            t60 = h == 60 ? x : t60;
            t118 = h == 118 ? x : t118;
            t119 = h == 119 ? x : t119;
        }
        s.fails("height 121", 4, 1, x);
        s.fails("height 121, of an abstraction", 5, 0, x);
        s.step(15, x);
        s.step(10, t118);
        s.fails("an equation of height 121", 10, t119);
        int a = s.step(15, t60);
        int b = s.step(18, a, 0, s.term(4, 1, t60));
        Checks.same("height 120", Compare.symbol(s.judge, b, -1, 238), 1);
        s.fails("height 121, a term put in", 18, b, 0, s.term(4, 1, 0));
        int e = s.step(10, s.term(2, 9, 0));
        s.step(18, e, s.term(2, 9, 0), t118);
        s.fails("height 121, put into an equation", 18, e, s.term(2, 9, 0), t119);
    }

    /** The conclusion has not the variable that is put in for, only a hypothesis. */
    private static void heightOfHypotheses() {
        Scribe s = new Scribe();
        s.beginTruths();
        int q = s.term(2, 1, 0);
        int fp = s.term(4, 1, 0);
        int same = s.term(4, s.term(4, s.term(3, 0, 2), fp), q);
        int a = s.step(16, s.step(15, same), s.step(15, fp));
        s.conclusion("q", a, 5);
        s.hypotheses("f p = q, and f p", a, 2);
        int x = 0;
        int t117 = 0;
        for (int h = 2; h <= 118; h++) {
            x = s.term(4, 1, x);
            t117 = h == 117 ? x : t117;
        }
        s.step(18, a, 0, t117);
        s.fails("height 121 of a hypothesis", 18, a, 0, x);
    }

    private static void hypotheses() {
        Scribe s = new Scribe();
        s.type(1, 0);
        int all = s.step(15, s.term(2, 0, 0));
        int alone = 0;
        for (int n = 1; n < 60; n++) {
            alone = s.step(15, s.term(2, n, 0));
            all = s.step(17, alone, all);
        }
        s.hypotheses("60", all, 60);
        s.row("the first of them", all, 0, Scribe.free(59));
        s.row("the last of them", all, 59, Scribe.free(0));
        int more = s.step(15, s.term(2, 60, 0));
        s.fails("61", 17, more, all);
        int again = s.step(17, alone, all);
        s.hypotheses("one of the 60 again", again, 60);
        s.hypotheses("59 put in for 0", s.step(18, all, 0, 59), 59);
        s.hypotheses("another one put in for 0", s.step(18, all, 0, 60), 60);
    }

    private static void symbolsOfSequents() {
        Scribe s = new Scribe();
        s.beginTruths();
        int big = s.termOf(2499);
        for (int i = 0; i < 4; i++) {
            s.step(15, big);
        }
        for (int i = 0; i < 2; i++) {
            s.step(15, 0);
        }
        s.fails("20001", 10, 0);
        s.step(15, 0);
        s.step(15, 0);
        s.fails("20002", 15, 0);
        s.fails("and an axiom", 22, 0);
        Checks.same("cut the last", Compare.cut(s.judge, 7), 0);
        s.step(15, 0);
    }

    /** Two hypotheses of 1503 symbols become one: that fits, where two would not. */
    private static void alikeHypothesesCountOnce() {
        Scribe s = new Scribe();
        s.beginTruths();
        int f = s.term(4, 2, s.termOf(1495));
        int equality = s.term(3, 0, 2);
        int r = s.term(2, 9, 0);
        int[] sequent = new int[2];
        int[] variable = new int[2];
        for (int i = 0; i < 2; i++) {
            variable[i] = s.term(2, 20 + i, 0);
            int big = s.term(4, f, variable[i]);
            int same = s.term(4, s.term(4, equality, r), big);
            sequent[i] = s.step(15, same);
        }
        int both = s.step(17, sequent[0], sequent[1]);
        s.hypotheses("two", both, 2);
        int used = 2 * 2 * 1503 + 2 * 1503 + 3 + 2 * 1503;
        int result = 1503 + 3 + 2 * 1503;
        fill(s, 20000 - used - result);
        s.fails("as they are, they are too many", 18, both, r, r);
        int one = s.step(18, both, variable[0], variable[1]);
        s.hypotheses("one", one, 1);
        s.fails("nothing more fits", 15, r);
    }

    /** Sequents with so many symbols together; fewer than 8000. */
    private static void fill(Scribe s, int symbols) {
        int rest = symbols;
        if (rest % 2 == 1) {
            s.step(10, 0);
            rest -= 5;
        }
        // Of an odd number n of symbols, 15 makes 2 n: an even rest is at most three such.
        while (rest > 0) {
            int half = Math.min(rest / 2, 1999);
            int n = half % 2 == 1 ? half : half - 1;
            s.step(15, s.termOf(n));
            rest -= 2 * n;
        }
    }

    private static void sequents() {
        Scribe s = new Scribe();
        s.type(1, 0);
        int identity = s.term(5, 0, s.term(6, 0, 0));
        for (int i = 0; i < 999; i++) {
            s.step(10, identity);
        }
        s.fails("step 21 would make 1001", 21, 0);
        s.step(20, identity);
        Checks.same("1000", s.judge.size(), 1000);
        s.fails("1001", 10, identity);
    }

    private static void entries() {
        Scribe s = new Scribe();
        for (int i = 0; i < 8000; i++) {
            s.say(1, 0);
        }
        s.say(1, 1);
        Checks.same("judge", s.judge.judge(), 0);
        Checks.same("8000 types will do, one more will not", s.judge.fault(), 16000);
        for (int round = 0; round < 4; round++) {
            for (int i = 0; i < 4000; i++) {
                s.say(2, i, 0);
            }
            Checks.same("terms", s.judge.judge(), 0);
            Checks.same("all did", s.judge.fault(), -1);
        }
        s.fails("term 16000", 2, 0, 0);
        s.step(10, 15999);
        s.fails("still term 16000", 2, 0, 0);
        Checks.same("cut", Compare.cut(s.judge, 0), 0);
        s.does("all anew", 0, 1, 0, 2, 0, 0);
    }

    /** 5 are there at first: 'a, truths, 'a to truths, and those of equality and choice. */
    private static void differentTypes() {
        Scribe s = new Scribe();
        for (int n = 1; n <= 7995; n++) {
            s.say(0, n);
        }
        Checks.same("judge", s.judge.judge(), 0);
        Checks.same("8000 different types", s.judge.fault(), -1);
        s.fails("one more", 0, 7996);
        s.fails("things", 1, 1);
        s.does("types that are there", 0, 0, 0, 1, 0);
        s.does("equality's own", 0, 1, 2, 7995, 7996, 1, 2, 7995, 7997, 3, 0, 7998);
        s.does("8000 of entries", 0, 0, 5);
        s.fails("8001 of entries", 0, 5);
    }

    private static void differentTypesOfSequents() {
        Scribe s = new Scribe();
        int last = 7995;
        for (int n = 1; n <= last - 3; n++) {
            s.say(0, n);
        }
        Checks.same("judge", s.judge.judge(), 0);
        // 7997 are there. x = x of 'b needs two more, equality's and what that answers.
        s.does("a variable", 0, 2, 0, 0);
        s.fails("axiom 2 needs far more", 22, 2);
        s.does("x = x", 1, 10, 0);
        s.fails("axiom 0 needs three", 22, 0);
        s.fails("x = x of another type needs two, one is left", 19, 0, 1, 1, 1);
        s.does("what it tried has gone: one more will do", 0, 0, 9000);
        s.fails("and no other", 0, 9001);
        s.does("what needs none", 1, 19, 0, 0);
        s.does("'a's equality is there", 1, 0, 0, 19, 0, 1, 1, 7993);
        Checks.same("cut 1", Compare.cut(s.judge, 1), 0);
        s.does("the last type has gone", 0, 0, 9001);
        s.fails("and its place is taken", 0, 9000);
    }

    private static void constants() {
        Scribe s = new Scribe();
        s.type(1, 0);
        int identity = s.term(5, 0, s.term(6, 0, 0));
        int e = s.step(10, identity);
        for (int c = 2; c < 199; c++) {
            s.step(20, identity);
        }
        s.fails("step 21 would make constants 199 and 200", 21, e);
        int last = s.step(20, identity);
        s.conclusion("constant 199", last, -1, -1, 2, Scribe.constant(199), -2, 0);
        s.fails("constant 200", 20, identity);
        s.fails("nor does step 21 do", 21, e);
        int type = s.function(0, 0);
        s.step(10, s.term(3, 199, type));
    }

    private static void constructors() {
        Scribe s = new Scribe();
        s.type(1, 0);
        int e = s.step(10, s.term(5, 0, s.term(6, 0, 0)));
        int last = 0;
        for (int c = 3; c < 40; c++) {
            last = s.step(21, e);
        }
        s.typeAt("constructor 39", last - 1, 8, 39);
        s.fails("constructor 40", 21, e);
        s.type(1, 39);
        s.fails("there is none such", 1, 40);
        s.does("constants are left", 2, 20, 1, 20, 1);
    }
}
