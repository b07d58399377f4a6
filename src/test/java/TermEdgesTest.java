/**
 * The document's Terms: a term has at most 4000 symbols and height 120, in entries and in what each
 * step makes.
 */
public final class TermEdgesTest {
    /** Says what is needed, and tells the step whose conclusion has the size. */
    private interface Attempt {
        int[] of(Run r, int size);
    }

    public static void main(String[] args) {
        symbolsOfApplications();
        symbolsOfAbstractions();
        symbolsOfSteps10To13();
        symbolsOfSteps14To18();
        symbolsOfDefinitions();
        symbolsOfAHypothesis();
        heightOfApplications();
        heightOfAbstractions();
        heightOfSteps10To13();
        heightOfSteps14To18();
        heightOfDefinitions();
        heightOfAHypothesis();
        Checks.end();
    }

    private static int[] entry(int... numbers) {
        return numbers;
    }

    /** The step will do with a conclusion of the last size, and not with the next one. */
    private static void symbols(String what, int last, int next, Attempt attempt) {
        Run fits = new Run(what + ", " + last + " symbols");
        int a = fits.step(attempt.of(fits, last));
        fits.lengthIs("the last that will do", a, -1, last);
        Run not = new Run(what + ", " + next + " symbols");
        not.fails("the first that will not do", attempt.of(not, next));
    }

    private static void height(String what, int last, Attempt attempt) {
        Run fits = new Run(what + ", of height " + last);
        fits.step(attempt.of(fits, last));
        fits.does("the last that will do");
        Run not = new Run(what + ", of height " + (last + 1));
        not.fails("the first that will not do", attempt.of(not, last + 1));
    }

    private static int truthOf(Run r, int symbols) {
        return r.termOf(r.freeLeaves(), symbols);
    }

    private static int truthHigh(Run r, int height) {
        return r.termHigh(r.freeLeaves(), height);
    }

    private static int assumed(Run r, int l, int right) {
        return r.step(15, r.equal(r.truths(), l, right));
    }

    private static void symbolsOfApplications() {
        Run r = new Run("an application of 4000 and 4001 symbols");
        int f = r.freeLeaves()[1];
        int t3998 = truthOf(r, 3998);
        int t3999 = truthOf(r, 3999);
        int t4000 = r.apply(f, t3998);
        r.fails("4001", 4, f, t3999);
        r.fails("4002", 4, f, t4000);
        int a = r.step(15, t4000);
        r.lengthIs("4000", a, 0, 4000);
        r.lengthIs("4000", a, -1, 4000);
        Run left = new Run("much applied, 4000 and 4001 symbols");
        int p = left.truth(0);
        int partly = left.apply(left.freeLeaves()[2], truthOf(left, 3996));
        left.apply(partly, p);
        int more = left.apply(left.freeLeaves()[2], truthOf(left, 3997));
        left.fails("4001", 4, more, p);
    }

    private static void symbolsOfAbstractions() {
        Run r = new Run("an abstraction of 4000 and 4001 symbols");
        int t3999 = truthOf(r, 3999);
        int t4000 = r.lambda(r.truths(), t3999);
        r.fails("4001", 5, r.truths(), t4000);
        r.fails("4001, of an application", 5, r.truths(), truthOf(r, 4000));
        r.does("4000");
    }

    private static void symbolsOfSteps10To13() {
        symbols("step 10", 3999, 4001, (r, n) -> entry(10, truthOf(r, (n - 3) / 2)));
        symbols("step 11", 4000, 4001, (r, n) -> entry(11, assumed(r, truthOf(r, n - 2002), r.truth(8)),
            assumed(r, r.truth(8), truthOf(r, 1999))));
        symbols("step 12", 4000, 4001, (r, n) -> entry(12, r.step(10, r.freeLeaves()[1]),
            assumed(r, truthOf(r, n - 2002), truthOf(r, 1995))));
        symbols("step 13", 4000, 4001, (r, n) -> entry(13, r.truth(8),
            assumed(r, truthOf(r, n - 2002), truthOf(r, 1997))));
    }

    private static void symbolsOfSteps14To18() {
        symbols("step 14", 4000, 4002, (r, n) -> entry(14,
            r.apply(r.lambda(r.truths(), truthOf(r, n / 2 - 3)), r.truth(8))));
        symbols("step 17", 4000, 4001, (r, n) -> entry(17,
            r.step(15, truthOf(r, n - 2002)), r.step(15, truthOf(r, 1999))));
        symbols("step 18", 4000, 4001, (r, n) -> entry(18,
            r.step(15, r.apply(r.freeLeaves()[1], r.truth(8))), r.truth(8), truthOf(r, n - 2)));
        symbols("step 18 in two places", 3999, 4001, (r, n) -> entry(18,
            r.step(10, r.truth(8)), r.truth(8), truthOf(r, (n - 3) / 2)));
    }

    private static void symbolsOfDefinitions() {
        symbols("step 20", 4000, 4001, (r, n) -> entry(20, r.termOf(r.constantLeaves(), n - 4)));
        // P is "= l" and has 2 symbols more than l, P r = (FRO (TO r) = r) has 14 more than P.
        symbols("step 21", 4000, 4001, (r, n) -> entry(21, equation(r, n - 16)));
    }

    /** p = q without hypotheses and free variables, p (itself an equation) with so many symbols. */
    private static int equation(Run r, int symbols) {
        int[] leaves = r.constantLeaves();
        int p = r.step(20, r.termOf(leaves, symbols - 4));
        int q = r.step(10, leaves[0]);
        return r.step(17, p, q);
    }

    /** f v, the hypothesis of p = p. */
    private static int underProperty(Run r) {
        return r.under(r.apply(r.freeLeaves()[1], r.truth(8)), r.step(10, r.truth(0)));
    }

    private static void symbolsOfAHypothesis() {
        Run fits = new Run("a hypothesis of 4000 symbols");
        int a = fits.step(18, underProperty(fits), fits.truth(8), truthOf(fits, 3998));
        fits.lengthIs("4000", a, 0, 4000);
        fits.conclusionIs("the conclusion has not changed", a, -1, -1, 2, 1, 1);
        Run not = new Run("a hypothesis of 4001 symbols");
        not.fails("4001", 18, underProperty(not), not.truth(8), truthOf(not, 3999));
    }

    private static void heightOfApplications() {
        Run r = new Run("an application of height 120 and 121");
        int f = r.freeLeaves()[1];
        int t120 = truthHigh(r, 120);
        r.fails("121", 4, f, t120);
        int a = r.step(15, t120);
        r.lengthIs("120", a, -1, 239);
        r.symbolIs("the innermost", a, 0, 238, 1);
        Run left = new Run("what is applied, of height 120 and 121");
        int p = left.truth(8);
        int f118 = left.lambda(left.truths(), truthHigh(left, 118));
        int f119 = left.lambda(left.truths(), truthHigh(left, 119));
        left.apply(f118, p);
        left.fails("121", 4, f119, p);
    }

    private static void heightOfAbstractions() {
        Run r = new Run("an abstraction of height 120 and 121");
        int t119 = truthHigh(r, 119);
        int t120 = r.apply(r.freeLeaves()[1], t119);
        r.fails("121", 5, r.truths(), t120);
        r.lambda(r.truths(), t119);
        r.does("120");
    }

    /** l = r is two higher than l, and one higher than r. */
    private static void heightOfSteps10To13() {
        height("step 10", 118, (r, n) -> entry(10, truthHigh(r, n)));
        Run r = new Run("step 11, height 120");
        int p = r.truth(8);
        r.step(11, assumed(r, truthHigh(r, 118), p), assumed(r, p, truthHigh(r, 119)));
        r.does("s = u");
        height("step 12, on the left", 117, (t, n) -> entry(12, t.step(10, t.freeLeaves()[1]),
            assumed(t, truthHigh(t, n), t.truth(8))));
        height("step 12, on the right", 118, (t, n) -> entry(12, t.step(10, t.freeLeaves()[1]),
            assumed(t, t.truth(8), truthHigh(t, n))));
        height("step 13, on the left", 117, (t, n) -> entry(13, t.truth(9),
            assumed(t, truthHigh(t, n), t.truth(8))));
        height("step 13, on the right", 118, (t, n) -> entry(13, t.truth(9),
            assumed(t, t.truth(8), truthHigh(t, n))));
    }

    private static void heightOfSteps14To18() {
        height("step 14, the body", 116, (r, n) -> entry(14,
            r.apply(r.lambda(r.truths(), truthHigh(r, n)), r.truth(8))));
        height("step 17, on the left", 118, (r, n) -> entry(17,
            r.step(15, truthHigh(r, n)), r.step(15, r.truth(8))));
        height("step 17, on the right", 119, (r, n) -> entry(17,
            r.step(15, r.truth(8)), r.step(15, truthHigh(r, n))));
        height("step 18", 119, (r, n) -> entry(18,
            r.step(15, r.apply(r.freeLeaves()[1], r.truth(8))), r.truth(8), truthHigh(r, n)));
        height("step 18 on the left of an equation", 118, (r, n) -> entry(18,
            r.step(15, r.equal(r.truths(), r.truth(8), r.truth(9))), r.truth(8), truthHigh(r, n)));
        height("step 18 on the right of an equation", 119, (r, n) -> entry(18,
            r.step(15, r.equal(r.truths(), r.truth(8), r.truth(9))), r.truth(9), truthHigh(r, n)));
    }

    private static void heightOfDefinitions() {
        height("step 20", 119, (r, n) -> entry(20, r.termHigh(r.constantLeaves(), n)));
        // Of t = t, P is "= t", and P r = (FRO (TO r) = r) is three higher than P.
        height("step 21", 116, (r, n) -> entry(21, r.step(10, r.termHigh(r.constantLeaves(), n))));
    }

    private static void heightOfAHypothesis() {
        height("a hypothesis' part", 119, (r, n) -> entry(18, underProperty(r), r.truth(8), truthHigh(r, n)));
    }
}
