import java.util.TreeSet;

/**
 * The document's Terms: at most 60 hypotheses, 20000 symbols of all sequents, 200 constants and 40
 * constructors; what has gone counts no more. The different types are in DifferentTypesTest, and the
 * limits that no run of 512 calls reaches in FarLimitsTest.
 */
public final class TotalEdgesTest {
    /** A term of so many symbols is made of smaller ones, with which sequents are filled up. */
    private static final int BIG = 3999;

    /** Says what is needed, and tells a step. */
    private interface Attempt {
        int[] of(Run r);
    }

    public static void main(String[] args) {
        hypothesesOfStep11();
        hypothesesOfOtherSteps();
        hypothesesOfStep17();
        hypothesesThatBecomeAlike();
        symbolsOfSequents();
        symbolsOfEachStep();
        symbolsOfEachAxiom();
        symbolsOfHypotheses();
        symbolsOfAlikeHypotheses();
        symbolsOfStep21();
        symbolsBehindCut();
        symbolsBehindKeep();
        constantsOfStep20();
        constantsOfStep21();
        constructors();
        Checks.end();
    }

    /**
     * p = p with 60 hypotheses: x = y, of six x (free variables 20 .. 25) and ten y (30, 21, 32 .. 39).
     * So 21 = 21 is one of them.
     */
    private static int withSixty(Run r) {
        int x = r.truth(20);
        int y = r.truth(30);
        int one = r.under(r.equal(r.truths(), x, y), r.step(10, r.truth(0)));
        int six = one;
        for (int n = 21; n <= 25; n++) {
            six = r.step(11, six, r.step(18, one, x, r.truth(n)));
        }
        int all = six;
        for (int n = 31; n <= 39; n++) {
            all = r.step(11, all, r.step(18, six, y, r.truth(n == 31 ? 21 : n)));
        }
        return all;
    }

    /** What a sequent without hypotheses says, with free variable 9, none of the 60, as hypothesis. */
    private static int withAnother(Run r, int a) {
        return r.under(r.truth(9), a);
    }

    /** What a sequent without hypotheses says, with one of the 60 as hypothesis. */
    private static int withOneOfThem(Run r, int a) {
        return r.under(r.equal(r.truths(), r.truth(25), r.truth(39)), a);
    }

    private static void hypothesesOfStep11() {
        Run r = new Run("60 hypotheses and 61, by step 11");
        int all = withSixty(r);
        r.hypothesesAre("60", all, 60);
        r.rowIs("the first", all, 0, -1, -1, 2, 81, 121);
        r.rowIs("the last", all, 59, -1, -1, 2, 101, 157);
        r.noSymbol("no other", all, 60, 0);
        int same = r.step(10, r.truth(0));
        int another = withAnother(r, same);
        r.fails("61", 11, all, another);
        r.fails("61, in the other order", 11, another, all);
        int again = r.step(11, all, withOneOfThem(r, same));
        r.hypothesesAre("one that is among them", again, 60);
        r.rowIs("at its place", again, 59, -1, -1, 2, 101, 157);
        int before = r.step(11, withOneOfThem(r, same), all);
        r.hypothesesAre("one that is among them, first", before, 60);
        r.rowIs("it is the first then", before, 0, -1, -1, 2, 101, 157);
        r.rowIs("and the first is the second", before, 1, -1, -1, 2, 81, 121);
        r.hypothesesAre("the same 60 twice", r.step(11, all, all), 60);
    }

    private static void hypothesesOfOtherSteps() {
        Run r = new Run("60 hypotheses and 61, by steps 12, 13, 16, 18, 19");
        int all = withSixty(r);
        int i = r.step(10, r.identity(r.truths()));
        int same = r.step(10, r.truth(0));
        r.fails("step 12: 61", 12, withAnother(r, i), all);
        r.hypothesesAre("step 12: 60", r.step(12, withOneOfThem(r, i), all), 60);
        // (p = p) = (p = p), with the 60.
        int equivalent = r.step(17, all, same);
        r.fails("step 16: 61", 16, equivalent, withAnother(r, same));
        r.hypothesesAre("step 16: 60", r.step(16, equivalent, withOneOfThem(r, same)), 60);
        r.hypothesesAre("step 13: 60", r.step(13, r.truth(0), all), 60);
        r.hypothesesAre("step 18: 60", r.step(18, all, r.truth(39), r.truth(9)), 60);
        r.hypothesesAre("step 19: 60", r.step(19, all, 0), 60);
    }

    /** Those that step 17 leaves out do not count. */
    private static void hypothesesOfStep17() {
        Run r = new Run("60 hypotheses and 61, by step 17");
        int all = withSixty(r);
        int v = r.step(10, r.truth(21));
        int same = r.step(10, r.truth(0));
        r.fails("61", 17, all, withAnother(r, same));
        r.fails("61, in the other order", 17, withAnother(r, same), all);
        r.hypothesesAre("one that is among them", r.step(17, withOneOfThem(r, same), all), 60);
        r.hypothesesAre("59: v = v, the second conclusion, is left out", r.step(17, all, v), 59);
        r.hypothesesAre("59 by the first conclusion", r.step(17, v, all), 59);
        r.hypothesesAre("59 and another", r.step(17, all, withAnother(r, v)), 60);
        int first = r.step(17, withAnother(r, v), all);
        r.hypothesesAre("another and 59", first, 60);
        r.rowIs("that is the first", first, 0, 37);
    }

    private static void hypothesesThatBecomeAlike() {
        Run r = new Run("60 hypotheses become fewer, and then more fit");
        int all = withSixty(r);
        int fifty = r.step(18, all, r.truth(25), r.truth(24));
        r.hypothesesAre("ten become like others", fifty, 50);
        int another = withAnother(r, r.step(10, r.truth(0)));
        r.hypothesesAre("one more", r.step(11, fifty, another), 51);
        r.fails("but not with the 60", 11, all, another);
    }

    /** Makes sequents until only so many symbols are left of 20000. */
    private static void fillUp(Run r, int used, int left) {
        int[] leaves = r.freeLeaves();
        TreeSet<Integer> sizes = new TreeSet<>();
        sizesIn(BIG, sizes);
        int rest = 20000 - used - left;
        if (rest % 2 == 1) {
            r.step(10, leaves[0]);
            rest -= 5;
        }
        while (rest > 0) {
            // Step 15 makes twice as many symbols as the term has.
            int n = sizes.floor(rest / 2);
            r.step(15, r.termOf(leaves, n));
            rest -= 2 * n;
        }
    }

    /** The sizes of the parts that Run.termOf makes a term of. */
    private static void sizesIn(int n, TreeSet<Integer> into) {
        if (into.add(n) && n > 3) {
            int half = (n - 3) / 2;
            int first = half % 2 == 1 ? half : half - 1;
            sizesIn(first, into);
            sizesIn(n - 3 - first, into);
        }
        into.add(1);
    }

    private static void symbolsOfSequents() {
        Run r = new Run("20000 symbols of all sequents");
        int p = r.truth(0);
        fillUp(r, 0, 4);
        r.fails("20001", 10, p);
        r.fails("20004, an axiom", 22, 0);
        r.step(15, p);
        r.fails("20003", 10, p);
        r.step(15, p);
        r.does("20000");
        r.fails("20002", 15, p);
        Run odd = new Run("20000 symbols by one of 5");
        fillUp(odd, 0, 5);
        odd.step(10, odd.truth(0));
        odd.does("20000");
        odd.fails("20002", 15, odd.truth(0));
    }

    /** The step makes so many symbols: it will do where they are left, and not where one is missing. */
    private static void edge(String what, int needs, Attempt attempt) {
        for (int missing = 0; missing <= 1; missing++) {
            Reference plain = new Reference();
            Run r = new Run(what + ", " + needs + " symbols where " + missing + " are missing", plain);
            int[] step = attempt.of(r);
            r.does("what it needs");
            fillUp(r, plain.sequentSymbols(), needs - missing);
            if (missing == 0) {
                r.step(step);
                r.does("20000");
                Checks.same(what, plain.sequentSymbols(), 20000);
            } else {
                r.fails("20001", step);
            }
        }
    }

    private static int[] step(int... numbers) {
        return numbers;
    }

    private static void symbolsOfEachStep() {
        edge("step 10", 5, r -> step(10, r.truth(0)));
        edge("step 11", 5, r -> step(11, r.step(10, r.truth(0)), r.step(10, r.truth(0))));
        edge("step 12", 11, r -> step(12, r.step(10, r.identity(r.truths())), r.step(10, r.truth(0))));
        edge("step 13", 7, r -> step(13, r.truth(1), r.step(10, r.truth(0))));
        edge("step 14", 8, r -> step(14, r.apply(r.identity(r.truths()), r.truth(0))));
        edge("step 15", 2, r -> step(15, r.truth(0)));
        edge("step 16", 7, r -> step(16,
            r.step(15, r.equal(r.truths(), r.truth(0), r.truth(1))), r.step(15, r.truth(0))));
        edge("step 17", 7, r -> step(17, r.step(15, r.truth(0)), r.step(15, r.truth(1))));
        edge("step 18", 10, r -> step(18,
            r.step(15, r.truth(0)), r.truth(0), r.equal(r.truths(), r.truth(1), r.truth(1))));
        edge("step 19", 2, r -> step(19, r.step(15, r.truth(0)), 0));
        edge("step 20", 6, r -> step(20, r.identity(r.truths())));
        edge("step 21", 27, r -> step(21, r.step(10, r.identity(r.truths()))));
    }

    private static void symbolsOfEachAxiom() {
        for (int k = 0; k < 3; k++) {
            int axiom = k;
            Reference plain = new Reference();
            plain.say(22);
            plain.say(k);
            plain.judge();
            edge("axiom " + k, plain.sequentSymbols(), r -> step(22, axiom));
        }
    }

    /** Of p = q with two hypotheses: 7 symbols. */
    private static void symbolsOfHypotheses() {
        Run r = new Run("20000 symbols, hypotheses among them");
        int both = r.step(17, r.step(15, r.truth(0)), r.step(15, r.truth(1)));
        fillUp(r, 2 + 2 + 7, 13);
        r.step(19, both, 0);
        r.fails("7 where 6 are left", 19, both, 0);
        r.step(15, r.truth(0));
        r.step(15, r.truth(0));
        r.step(15, r.truth(0));
        r.does("20000");
        r.fails("20002", 15, r.truth(0));
    }

    private static void symbolsOfAlikeHypotheses() {
        Run r = new Run("hypotheses that become alike count once");
        int p = r.truth(0);
        int q = r.truth(1);
        int both = r.step(17, r.step(15, p), r.step(15, q));
        fillUp(r, 2 + 2 + 7, 6);
        r.fails("7 where 6 are left", 18, both, p, p);
        r.hypothesesAre("6 where 6 are left", r.step(18, both, p, q), 1);
        r.fails("20002", 15, p);
    }

    /** Of i = i, i having 2 symbols, step 21 makes two sequents of 9 and 18 symbols. */
    private static void symbolsOfStep21() {
        Run fits = new Run("step 21 where 27 symbols are left");
        int a = fits.step(10, fits.identity(fits.truths()));
        fillUp(fits, 7, 27);
        int second = fits.step(21, a);
        fits.lengthIs("9", second - 1, -1, 9);
        fits.lengthIs("18", second, -1, 18);
        fits.fails("20002", 15, fits.truth(0));
        Run not = new Run("step 21 where 26 symbols are left");
        int b = not.step(10, not.identity(not.truths()));
        fillUp(not, 7, 26);
        not.fails("27", 21, b);
        not.fails("it made no constructor", 1, 3);
        not.fails("nor a constant", 3, 2, not.function(not.truths(), not.truths()));
        for (int i = 0; i < 13; i++) {
            not.step(15, not.truth(0));
        }
        not.does("26 are left still");
        not.fails("20002", 15, not.truth(0));
    }

    private static void symbolsBehindCut() {
        Run r = new Run("20000 symbols behind a cut");
        fillUp(r, 0, 5);
        int last = r.step(10, r.truth(0));
        r.fails("20002", 15, r.truth(0));
        r.cuts("5 go", last);
        r.step(15, r.truth(0));
        r.fails("20002, where 3 are left", 10, r.truth(0));
        r.step(15, r.truth(0));
        r.fails("20001", 15, r.truth(0));
        r.cuts("all go", 0);
        fillUp(r, 0, 0);
        r.does("20000");
        r.fails("20002", 15, r.truth(0));
    }

    private static void symbolsBehindKeep() {
        Run r = new Run("20000 symbols behind a keep");
        r.step(10, r.truth(0));
        fillUp(r, 5, 5);
        int last = r.step(10, r.truth(0));
        r.fails("20002", 15, r.truth(0));
        r.keeps("two of 5 are left", last, 1);
        fillUp(r, 10, 2);
        r.fails("20003", 10, r.truth(0));
        r.step(15, r.truth(0));
        r.does("20000");
        r.fails("20002", 15, r.truth(0));
    }

    /** So many steps 20, of the identity. */
    private static void constants(Run r, int count) {
        for (int made = 0; made < count; made++) {
            r.step(20, r.identity(r.truths()));
        }
        r.does("all these");
    }

    private static void constantsOfStep20() {
        Run r = new Run("200 constants by step 20");
        constants(r, 197);
        int last = r.step(20, r.identity(r.truths()));
        r.conclusionIs("constant 199", last, -1, -1, 2, 4 * 199 + 2, -2, 0);
        r.fails("constant 200", 20, r.identity(r.truths()));
        int type = r.function(r.truths(), r.truths());
        r.constant(199, type);
        r.fails("there is none such", 3, 200, type);
    }

    private static void constantsOfStep21() {
        Run fits = new Run("200 constants by step 21");
        int a = fits.step(10, fits.identity(fits.truths()));
        constants(fits, 196);
        int second = fits.step(21, a);
        fits.conclusionIs("constants 198 and 199", second - 1, -1, -1, 2, -1, 794, -1, 798, 1, 1);
        fits.fails("constant 200", 20, fits.identity(fits.truths()));
        fits.fails("constants 200 and 201", 21, a);
        Run not = new Run("201 constants by step 21");
        int b = not.step(10, not.identity(not.truths()));
        constants(not, 197);
        not.fails("constants 199 and 200", 21, b);
        not.fails("it made no constructor", 1, 3);
        int last = not.step(20, not.identity(not.truths()));
        not.conclusionIs("constant 199", last, -1, -1, 2, 4 * 199 + 2, -2, 0);
        not.fails("constant 200", 20, not.identity(not.truths()));
    }

    private static void constructors() {
        Run r = new Run("40 constructors");
        int a = r.step(10, r.identity(r.truths()));
        for (int c = 3; c < 39; c++) {
            r.step(21, a);
        }
        int last = r.step(21, a);
        r.typeIs("constructor 39", last - 1, 8, 39);
        r.fails("constructor 40", 21, a);
        r.type(1, 39);
        r.fails("there is none such", 1, 40);
        int next = r.step(20, r.identity(r.truths()));
        r.conclusionIs("what failed made no constants", next, -1, -1, 2, 4 * 76 + 2, -2, 0);
    }
}
