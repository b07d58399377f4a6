/**
 * The document's Terms: a type has at most 200 symbols and height 24, also that of each term, in
 * entries and in what each step makes.
 */
public final class TypeEdgesTest {
    /** Says what is needed, and tells the entry that has the size. */
    private interface Attempt {
        int[] of(Run r, int size);
    }

    public static void main(String[] args) {
        symbolsOfTypes();
        heightOfTypes();
        symbolsOfAbstractions();
        heightOfAbstractions();
        symbolsOfEquality();
        heightOfEquality();
        symbolsOfStep13();
        heightOfStep13();
        symbolsOfTypesPutIn();
        heightOfTypesPutIn();
        typesOfNewConstructors();
        longestTypeThatCanBeRead();
        Checks.end();
    }

    /** The entry will do with the last size, and not with the next one. */
    private static void edge(String what, int last, int next, Attempt attempt) {
        Run fits = new Run(what + " of " + last);
        fits.makeConstructor3();
        int[] entry = attempt.of(fits, last);
        if (entry[0] < 10) {
            fits.say(entry);
        } else {
            fits.step(entry);
        }
        fits.does("the last that will do");
        Run not = new Run(what + " of " + next);
        not.makeConstructor3();
        not.fails("the first that will not do", attempt.of(not, next));
    }

    private static int[] entry(int... numbers) {
        return numbers;
    }

    private static void symbolsOfTypes() {
        edge("functions, symbols", 199, 201, (r, n) -> entry(1, 2, r.typeOf(99), r.typeOf(n - 100)));
        edge("functions, even symbols", 200, 202, (r, n) -> entry(1, 2, r.typeOf(99), r.typeOf(n - 100)));
        edge("functions from much, symbols", 200, 201, (r, n) -> entry(1, 2, r.typeOf(n - 2), r.typeOf(1)));
        edge("functions to much, symbols", 200, 201, (r, n) -> entry(1, 2, r.typeOf(1), r.typeOf(n - 2)));
        edge("constructor 3, symbols", 200, 201, (r, n) -> entry(1, 3, r.typeOf(n - 1)));
    }

    private static void heightOfTypes() {
        edge("functions to, height", 24, 25, (r, n) -> entry(1, 2, r.truths(), r.typeHigh(n - 1)));
        edge("functions from, height", 24, 25, (r, n) -> entry(1, 2, r.typeHigh(n - 1), r.truths()));
        edge("constructor 3, height", 24, 25, (r, n) -> entry(1, 3, r.typeHigh(n - 1)));
        edge("functions from a type variable, height", 24, 25,
            (r, n) -> entry(1, 2, highOver(r, r.typeVariable(5), n - 1), r.truths()));
    }

    /** Functions from functions from .. a type that has height 1. */
    private static int highOver(Run r, int base, int height) {
        int t = base;
        for (int h = 2; h <= height; h++) {
            t = r.function(t, base);
        }
        return t;
    }

    private static void symbolsOfAbstractions() {
        edge("an abstraction, symbols", 200, 201,
            (r, n) -> entry(5, r.typeOf(n - 2), r.free(0, r.truths())));
        edge("an abstraction of a body, symbols", 200, 201,
            (r, n) -> entry(5, r.truths(), r.free(0, r.typeOf(n - 2))));
    }

    private static void heightOfAbstractions() {
        edge("an abstraction, height", 24, 25, (r, n) -> entry(5, r.typeHigh(n - 1), r.free(0, r.truths())));
        edge("an abstraction of a body, height", 24, 25,
            (r, n) -> entry(5, r.truths(), r.free(0, r.typeHigh(n - 1))));
    }

    /** Equality of a type has twice its symbols and three, so that 98 are the most. */
    private static void symbolsOfEquality() {
        edge("step 10, symbols", 98, 99, (r, n) -> entry(10, r.free(0, r.typeOf(n))));
        edge("step 14, symbols", 98, 99,
            (r, n) -> entry(14, r.apply(r.lambda(r.truths(), r.free(0, r.typeOf(n))), r.truth(1))));
        edge("step 20, symbols", 98, 99, (r, n) -> entry(20, constantly(r, r.typeOf(n - 2))));
    }

    private static void heightOfEquality() {
        edge("step 10, height", 22, 23, (r, n) -> entry(10, r.free(0, r.typeHigh(n))));
        edge("step 14, height", 22, 23,
            (r, n) -> entry(14, r.apply(r.lambda(r.truths(), r.free(0, r.typeHigh(n))), r.truth(1))));
        edge("step 20, height", 22, 23, (r, n) -> entry(20, constantly(r, r.typeHigh(n - 1))));
    }

    /** \x. (i = i), without free variables. */
    private static int constantly(Run r, int type) {
        int i = r.identity(r.truths());
        return r.lambda(type, r.equal(r.function(r.truths(), r.truths()), i, i));
    }

    /** The abstractions have one symbol more than both, and equality of that twice as many and three. */
    private static void symbolsOfStep13() {
        edge("step 13's variable, symbols", 96, 97,
            (r, n) -> entry(13, r.free(0, r.typeOf(n)), r.step(10, r.truth(0))));
        edge("step 13's sides, symbols", 96, 97,
            (r, n) -> entry(13, r.truth(0), r.step(10, r.free(0, r.typeOf(n)))));
    }

    private static void heightOfStep13() {
        edge("step 13's variable, height", 21, 22,
            (r, n) -> entry(13, r.free(0, r.typeHigh(n)), r.step(10, r.truth(0))));
        edge("step 13's sides, height", 21, 22,
            (r, n) -> entry(13, r.truth(0), r.step(10, r.free(0, r.typeHigh(n)))));
    }

    private static void symbolsOfTypesPutIn() {
        edge("step 19, symbols", 98, 99,
            (r, n) -> entry(19, r.step(10, r.free(0, r.typeVariable(0))), 1, 0, r.typeOf(n)));
        // 'a to 'a has twice the symbols and one, its equality twice these and three.
        edge("step 19 in two places, symbols", 48, 49, (r, n) -> entry(19,
            r.step(10, r.free(0, r.function(r.typeVariable(0), r.typeVariable(0)))), 1, 0, r.typeOf(n)));
        // In a hypothesis alone: f x, f of 'a to truths.
        edge("step 19 in a hypothesis, symbols", 198, 199,
            (r, n) -> entry(19, underProperty(r), 1, 0, r.typeOf(n)));
    }

    private static void heightOfTypesPutIn() {
        edge("step 19, height", 22, 23,
            (r, n) -> entry(19, r.step(10, r.free(0, r.typeVariable(0))), 1, 0, r.typeHigh(n)));
        edge("step 19 deeper, height", 21, 22, (r, n) -> entry(19,
            r.step(10, r.free(0, r.function(r.truths(), r.typeVariable(0)))), 1, 0, r.typeHigh(n)));
        edge("step 19 in a hypothesis, height", 23, 24,
            (r, n) -> entry(19, underProperty(r), 1, 0, r.typeHigh(n)));
    }

    /** p = p, with f x as hypothesis, f of 'a to truths. */
    private static int underProperty(Run r) {
        int a = r.typeVariable(0);
        int fx = r.apply(r.free(0, r.function(a, r.truths())), r.free(0, a));
        return r.under(fx, r.step(10, r.truth(0)));
    }

    /** Of P x, P constantly true, x of that type: FRO (TO r) = r needs equality of it. */
    private static void typesOfNewConstructors() {
        edge("step 21, symbols", 98, 99, (r, n) -> entry(21, always(r, r.typeOf(n))));
        edge("step 21, height", 22, 23, (r, n) -> entry(21, always(r, r.typeHigh(n))));
    }

    private static int always(Run r, int type) {
        int truths = r.truths();
        int i = r.identity(truths);
        int holds = r.step(10, i);
        int applied = r.apply(constantly(r, type), r.free(4, type));
        int back = r.turned(r.step(14, applied), applied);
        return r.step(16, back, holds);
    }

    private static void longestTypeThatCanBeRead() {
        Run r = new Run("a type of 200 symbols");
        r.makeConstructor3();
        int x = r.free(0, r.typeOf(198));
        int f = r.free(0, r.function(r.typeOf(198), r.truths()));
        int a = r.step(15, r.apply(f, x));
        r.conclusionIs("f x", a, -1, 1, 1);
        r.typeSymbolIs("the first", a, 0, 1, 0, 2);
        r.typeSymbolIs("the second", a, 0, 1, 1, 3);
        r.typeSymbolIs("the last", a, 0, 1, 199, 0);
        r.typeLengthIs("f", a, 0, 1, 200);
        r.typeLengthIs("x", a, -1, 2, 198);
        r.typeLengthIs("f x", a, -1, 0, 1);
        Run high = new Run("a type of height 24");
        int y = high.free(0, high.typeHigh(23));
        int g = high.free(0, high.function(high.typeHigh(23), high.truths()));
        int b = high.step(15, high.apply(g, y));
        high.typeSymbolIs("the last of y's", b, 0, 1, 45, 0);
        high.typeSymbolIs("the last", b, 0, 1, 46, 0);
        high.typeLengthIs("g", b, 0, 1, 47);
    }
}
