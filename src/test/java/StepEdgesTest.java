/** The document's Terms: what each step asks for, just so and not quite so. */
public final class StepEdgesTest {
    public static void main(String[] args) {
        equationsAlone();
        sameTermsAreOfTheSameTypes();
        step11();
        step12();
        step13();
        step14();
        step15();
        step16();
        step17();
        step18();
        step18PutsInOnce();
        step19();
        step19Puts250();
        step19PutsNoMore();
        step20();
        step20FreeVariables();
        step20TypeVariables();
        step21();
        step21FreeVariables();
        step21TypeVariables();
        step21OfAConstantAlone();
        step22();
        Checks.end();
    }

    private static int assumed(Run r, int l, int right) {
        return r.step(15, r.equal(r.truths(), l, right));
    }

    /** Two terms under a relation are no equation, unless the relation is constant 0. */
    private static void equationsAlone() {
        Run r = new Run("steps 11, 12, 13, 16 of equations alone");
        int truths = r.truths();
        int p = r.truth(0);
        int relation = r.function(truths, r.function(truths, truths));
        int g = r.free(3, relation);
        r.step(20, r.lambda(truths, r.lambda(truths, r.bound(1, truths))));
        int c = r.constant(2, relation);
        int same = r.step(10, p);
        int i = r.step(10, r.identity(truths));
        int holds = r.step(15, p);
        for (int other : new int[] {g, c}) {
            int a = r.step(15, r.apply(r.apply(other, p), p));
            r.fails("step 11's first", 11, a, same);
            r.fails("step 11's second", 11, same, a);
            r.fails("step 12's second", 12, i, a);
            r.fails("step 13", 13, r.truth(9), a);
            r.fails("step 16's first", 16, a, holds);
        }
        int ofFunctions = r.free(4, r.function(r.function(truths, truths),
            r.function(r.function(truths, truths), truths)));
        int b = r.step(15, r.apply(r.apply(ofFunctions, r.identity(truths)), r.identity(truths)));
        r.fails("step 12's first", 12, b, same);
        int e = r.step(15, r.apply(r.apply(r.constant(0, relation), p), p));
        r.step(11, e, same);
        r.step(12, i, e);
        r.step(13, r.truth(9), e);
        r.step(16, e, holds);
        r.does("constant 0, as an entry");
    }

    /** (\x. q) y, x and y of that type: the symbols are the same for each type. */
    private static int constantly(Run r, int type) {
        return r.apply(r.lambda(type, r.truth(1)), r.free(0, type));
    }

    private static void sameTermsAreOfTheSameTypes() {
        Run r = new Run("terms that differ in a type alone");
        int a = constantly(r, r.typeVariable(0));
        int b = constantly(r, r.typeVariable(1));
        int ofA = r.step(15, a);
        int ofB = r.step(15, b);
        r.fails("step 11", 11, r.step(10, a), r.step(10, b));
        r.fails("step 16", 16, r.step(10, a), ofB);
        int both = r.step(17, ofA, ofB);
        r.hypothesesAre("step 17 leaves none out", both, 2);
        r.hypothesesAre("step 17 joins them to two", r.step(17, both, r.step(10, r.truth(1))), 2);
        r.hypothesesAre("step 19 makes them alike", r.step(19, both, 1, 1, r.typeVariable(0)), 1);
        r.hypothesesAre("or changes both", r.step(19, both, 2, 1, r.typeVariable(0), 0, r.typeVariable(1)), 2);
        r.hypothesesAre("step 18 puts in for one of them", r.step(18, both, r.free(0, r.typeVariable(0)),
            r.free(5, r.typeVariable(0))), 2);
    }

    private static void step11() {
        Run r = new Run("step 11: t is the same in s = t and t = u");
        int p = r.truth(0);
        int q = r.truth(1);
        int a = r.typeVariable(0);
        int pq = assumed(r, p, q);
        int qp = assumed(r, q, p);
        r.fails("another variable", 11, pq, pq);
        int ofA = r.step(10, r.free(1, a));
        int ofThings = r.step(10, r.free(1, r.things()));
        r.fails("the same variable of another type", 11, ofA, ofThings);
        int longer = r.step(10, r.equal(r.truths(), p, q));
        r.fails("a longer one", 11, pq, longer);
        r.fails("no equation behind", 11, pq, r.step(15, q));
        r.fails("no equation before", 11, r.step(15, q), qp);
        int both = r.step(11, pq, qp);
        r.conclusionIs("p = p", both, -1, -1, 2, 1, 1);
        r.rowIs("p = q first", both, 0, -1, -1, 2, 1, 5);
        r.rowIs("then q = p", both, 1, -1, -1, 2, 5, 1);
    }

    private static void step12() {
        Run r = new Run("step 12: applications");
        int things = r.things();
        int a = r.typeVariable(0);
        int f = r.step(10, r.free(0, r.function(things, r.truths())));
        int x = r.step(10, r.free(1, things));
        r.fails("to what is of another type", 12, f, r.step(10, r.free(1, r.truths())));
        r.fails("to a type variable's", 12, f, r.step(10, r.free(1, a)));
        r.fails("of what is no function", 12, x, x);
        r.fails("of a function to itself", 12, f, f);
        r.fails("in the other order", 12, x, f);
        r.conclusionIs("f x = f x", r.step(12, f, x), -1, -1, 2, -1, 1, 5, -1, 1, 5);
    }

    private static void step13() {
        Run r = new Run("step 13: a free variable that is in no hypothesis");
        int p = r.truth(0);
        int q = r.truth(1);
        int s = r.truth(2);
        int two = r.step(11, assumed(r, p, q), assumed(r, q, p));
        int same = r.step(16, r.step(17, two, r.step(10, s)), two);
        r.hypothesesAre("s = s, with p = q and q = p", same, 2);
        r.fails("p, in each hypothesis", 13, p, same);
        int one = r.under(p, r.under(q, r.step(10, s)));
        r.rowIs("p is the first hypothesis", one, 0, 1);
        r.rowIs("q is the second one", one, 1, 5);
        r.fails("in the first hypothesis alone", 13, p, one);
        r.fails("in the last hypothesis alone", 13, q, one);
        int over = r.step(13, s, one);
        r.conclusionIs("s is in none", over, -1, -1, 2, -2, 0, -2, 0);
        r.hypothesesAre("they stay", over, 2);
        int other = r.step(13, r.free(0, r.things()), one);
        r.conclusionIs("0 of things is another variable than 0 of truths", other, -1, -1, 2, -2, 9, -2, 9);
        int absent = r.step(13, r.truth(3), one);
        r.conclusionIs("one that is nowhere", absent, -1, -1, 2, -2, 9, -2, 9);
        int reflexive = r.step(10, s);
        r.fails("a constant", 13, r.equality(r.truths()), reflexive);
        r.fails("an application", 13, r.equal(r.truths(), s, s), reflexive);
        r.fails("an abstraction", 13, r.identity(r.truths()), reflexive);
        r.fails("what is bound", 13, r.bound(0, r.truths()), reflexive);
        r.fails("no equation", 13, r.truth(3), r.step(15, s));
    }

    private static void step14() {
        Run r = new Run("step 14: the application of an abstraction to a free variable");
        int truths = r.truths();
        int p = r.truth(0);
        int i = r.identity(truths);
        int f = r.free(4, r.function(truths, truths));
        r.fails("of a variable", 14, r.apply(f, p));
        r.fails("to an application", 14, r.apply(i, r.apply(f, p)));
        r.step(20, i);
        r.fails("to a constant", 14, r.apply(r.lambda(r.function(truths, truths), p),
            r.constant(2, r.function(truths, truths))));
        r.fails("to an abstraction", 14, r.apply(r.lambda(r.function(truths, truths), p), i));
        r.fails("an abstraction alone", 14, i);
        r.fails("a variable alone", 14, p);
        r.conclusionIs("(\\x. x) p = p", r.step(14, r.apply(i, p)), -1, -1, 2, -1, -2, 0, 1, 1);
        int nested = r.lambda(truths, r.lambda(truths, r.bound(1, truths)));
        r.conclusionIs("(\\x. \\y. x) p = \\y. p", r.step(14, r.apply(nested, p)),
            -1, -1, 2, -1, -2, -2, 4, 1, -2, 1);
        int inner = r.lambda(truths, r.lambda(truths, r.bound(0, truths)));
        r.conclusionIs("(\\x. \\y. y) p = \\y. y", r.step(14, r.apply(inner, p)),
            -1, -1, 2, -1, -2, -2, 0, 1, -2, 0);
    }

    private static void step15() {
        Run r = new Run("step 15: of truths");
        r.fails("of things", 15, r.free(0, r.things()));
        r.fails("of a type variable", 15, r.free(0, r.typeVariable(0)));
        r.fails("of a function to truths", 15, r.free(0, r.function(r.truths(), r.truths())));
        int a = r.step(15, r.truth(0));
        r.conclusionIs("p", a, 1);
        r.rowIs("p, its hypothesis", a, 0, 1);
        r.hypothesesAre("one", a, 1);
    }

    private static void step16() {
        Run r = new Run("step 16: of p = q and p");
        int p = r.truth(0);
        int q = r.truth(1);
        int pq = assumed(r, p, q);
        r.fails("q", 16, pq, r.step(15, q));
        r.fails("p = q itself", 16, pq, pq);
        r.fails("no equation", 16, r.step(15, p), r.step(15, p));
        r.fails("an equation of things", 16, r.step(10, r.free(0, r.things())), r.step(15, p));
        int holds = r.step(16, pq, r.step(15, p));
        r.conclusionIs("q", holds, 5);
        r.rowIs("p = q first", holds, 0, -1, -1, 2, 1, 5);
        r.rowIs("then p", holds, 1, 1);
    }

    /** Hypotheses that are left out are those like the other one's conclusion. */
    private static void step17() {
        Run r = new Run("step 17: but q, and but p");
        int p = r.truth(0);
        int q = r.truth(1);
        int s = r.truth(2);
        int pUnderQS = r.step(16, assumed(r, s, p), r.step(15, s));
        r.hypothesesAre("p, with s = p and s", pUnderQS, 2);
        int left = r.step(17, pUnderQS, r.step(15, s));
        r.hypothesesAre("s is left out, and comes with the second one", left, 2);
        r.rowIs("s = p", left, 0, -1, -1, 2, 9, 1);
        r.rowIs("s", left, 1, 9);
        int right = r.step(17, r.step(15, s), pUnderQS);
        r.hypothesesAre("in the other order", right, 2);
        r.rowIs("s first", right, 0, 9);
        r.rowIs("then s = p", right, 1, -1, -1, 2, 9, 1);
        r.hypothesesAre("p and p, without both", r.step(17, r.step(15, p), r.step(15, p)), 0);
        r.hypothesesAre("p and q, with both", r.step(17, r.step(15, p), r.step(15, q)), 2);
        int first = r.step(17, r.under(p, r.step(10, q)), r.step(15, p));
        r.hypothesesAre("p is the second one's conclusion and hypothesis", first, 1);
        int second = r.step(17, r.step(15, p), r.under(p, r.step(10, q)));
        r.hypothesesAre("p is the first one's conclusion and hypothesis", second, 1);
        r.conclusionIs("p = (q = q)", second, -1, -1, 2, 1, -1, -1, 2, 5, 5);
    }

    private static void step18() {
        Run r = new Run("step 18: a free variable, and a term of its type");
        int p = r.truth(0);
        int q = r.truth(1);
        int s = r.truth(2);
        int three = r.under(p, r.under(q, r.under(s, r.step(10, p))));
        r.hypothesesAre("p, q, s", three, 3);
        r.fails("a term of another type", 18, three, p, r.free(0, r.things()));
        r.fails("for a constant", 18, three, r.equality(r.truths()), r.equality(r.truths()));
        r.fails("for an application", 18, three, r.equal(r.truths(), p, p), p);
        int last = r.step(18, three, s, p);
        r.hypothesesAre("p, q, p: the last goes", last, 2);
        r.rowIs("p", last, 0, 1);
        r.rowIs("q", last, 1, 5);
        int first = r.step(18, three, p, s);
        r.hypothesesAre("s, q, s: once, at its first place", first, 2);
        r.rowIs("s", first, 0, 9);
        r.rowIs("q behind it", first, 1, 5);
        r.conclusionIs("in the conclusion, too", first, -1, -1, 2, 9, 9);
        int none = r.step(18, three, r.free(0, r.things()), r.free(5, r.things()));
        r.hypothesesAre("0 of things is another variable", none, 3);
        r.conclusionIs("it is nowhere", none, -1, -1, 2, 1, 1);
    }

    private static void step18PutsInOnce() {
        Run r = new Run("step 18: what is put in is not looked into");
        int p = r.truth(0);
        int a = r.step(18, r.step(15, p), p, r.equal(r.truths(), p, p));
        r.conclusionIs("p = p for p", a, -1, -1, 2, 1, 1);
        r.rowIs("in the hypothesis, too", a, 0, -1, -1, 2, 1, 1);
        int under = r.step(10, r.lambda(r.truths(), r.equal(r.truths(), p, r.bound(0, r.truths()))));
        int b = r.step(18, under, p, r.truth(6));
        r.conclusionIs("below an abstraction", b, -1, -1, 2, -2, -1, -1, 2, 25, 0, -2, -1, -1, 2, 25, 0);
    }

    private static void step19() {
        Run r = new Run("step 19: type variables, different ones, at once");
        int a = r.typeVariable(0);
        int b = r.typeVariable(99999999);
        int truths = r.truths();
        int e = r.step(10, r.free(0, r.function(a, b)));
        r.fails("k is -1", 19, e, -1);
        r.fails("k is -1, with a pair", 19, e, -1, 0, truths);
        r.fails("the lowest k", 19, e, Integer.MIN_VALUE);
        r.fails("the highest k", 19, e, Integer.MAX_VALUE, 0, truths);
        r.fails("type variable -1", 19, e, 1, -1, truths);
        r.fails("type variable 100000000", 19, e, 1, 100000000, truths);
        r.fails("the same twice", 19, e, 2, 0, truths, 0, truths);
        r.fails("the first and the last", 19, e, 3, 7, a, 0, b, 7, b);
        r.fails("the second and the last", 19, e, 3, 0, a, 7, b, 7, b);
        r.fails("one that is nowhere, twice", 19, e, 2, 55, truths, 55, truths);
        r.typeIs("k is 0", r.step(19, e, 0), 3, 2, -1, -100000000);
        r.typeIs("0 and 99999999", r.step(19, e, 2, 99999999, truths, 0, truths), 3, 2, 0, 0);
        r.typeIs("at once", r.step(19, e, 2, 0, b, 99999999, a), 3, 2, -100000000, -1);
        r.typeIs("of itself", r.step(19, e, 1, 0, r.function(a, a)), 3, 2, 2, -1, -1, -100000000);
    }

    /** An axiom, truths, and a step that puts truths in for so many type variables, 0 and 1 the last ones. */
    private static int[] puts(Run r, int k) {
        r.step(22, 0);
        int truths = r.truths();
        int[] entry = new int[3 + 2 * k];
        entry[0] = 19;
        entry[2] = k;
        for (int i = 0; i < k; i++) {
            entry[3 + 2 * i] = k - 1 - i;
            entry[4 + 2 * i] = truths;
        }
        return entry;
    }

    private static void step19Puts250() {
        Run r = new Run("step 19: k is 250");
        int a = r.step(puts(r, 250));
        r.typeSymbolIs("truths for 'b, too", a, -1, 4, 0, 0);
        r.typeSymbolIs("truths for 'a, the last of them", a, -1, 6, 0, 0);
    }

    /** What it leaves of the 512 calls tells that it will not do. */
    private static void step19PutsNoMore() {
        Run r = new Run("step 19: k is 251");
        r.say(puts(r, 251));
        r.judges("251", 1);
        r.faultIs("251", 4);
    }

    private static void step20() {
        Run r = new Run("step 20: no free variable, all type variables in the type");
        int a = r.typeVariable(0);
        int truths = r.truths();
        int i = r.identity(a);
        int holds = r.equal(r.function(a, a), i, i);
        r.fails("a free variable", 20, r.truth(0));
        r.fails("one inside", 20, r.lambda(a, r.truth(0)));
        r.fails("one that is applied", 20, r.apply(r.free(0, r.function(truths, truths)), holds));
        r.fails("'a is not in truths", 20, holds);
        r.fails("'a is not in truths to truths", 20, r.lambda(truths, holds));
        int c = r.step(20, r.lambda(a, holds));
        r.typeIs("'a is in 'a to truths", c, 3, 2, -1, 0);
        int d = r.step(20, r.lambda(truths, i));
        r.typeIs("'a is in truths to ('a to 'a)", d, 3, 2, 0, 2, -1, -1);
        int j = r.identity(truths);
        int e = r.step(20, r.equal(r.function(truths, truths), j, j));
        r.conclusionIs("no type variable at all", e, -1, -1, 2, 18, -1, -1, 2, -2, 0, -2, 0);
        r.hypothesesAre("it has none", e, 0);
    }

    private static void step20FreeVariables() {
        Run r = new Run("step 20: any free variable, and no other symbol");
        int truths = r.truths();
        int property = r.function(truths, truths);
        for (int n : new int[] {0, 1, 2, 3, 4, 5, 99999999}) {
            r.fails("free variable " + n, 20, r.truth(n));
            r.fails("free variable " + n + " inside", 20, r.lambda(truths, r.truth(n)));
        }
        int deep = r.lambda(truths, r.lambda(truths, r.lambda(truths, r.bound(2, truths))));
        r.conclusionIs("what is bound further out", r.step(20, deep), -1, -1, 2, 10, -2, -2, -2, 8);
        int chosen = r.apply(r.constant(1, r.function(property, truths)), r.identity(truths));
        r.conclusionIs("choice", r.step(20, chosen), -1, -1, 2, 14, -1, 6, -2, 0);
        r.conclusionIs("a constant of step 20", r.step(20, r.constant(3, truths)), -1, -1, 2, 18, 14);
        r.conclusionIs("equality", r.step(20, r.equality(truths)), -1, -1, 2, 22, 2);
    }

    /** 'a is in the types of symbols, but no symbol is of 'a itself. */
    private static void step20TypeVariables() {
        Run r = new Run("step 20: a type variable inside of types");
        int a = r.typeVariable(0);
        int toItself = r.function(a, a);
        r.step(20, r.identity(a));
        int c = r.constant(2, toItself);
        r.fails("c = c, c of 'a to 'a", 20, r.equal(toItself, c, c));
        r.fails("below an abstraction", 20, r.lambda(r.truths(), r.equal(toItself, c, c)));
        r.typeIs("c, of 'a to 'a", r.step(20, c), 3, 2, -1, -1);
        int things = r.function(r.things(), r.things());
        int d = r.constant(2, things);
        r.typeIs("c = c, c of things to things", r.step(20, r.equal(things, d, d)), 3, 0);
    }

    private static void step21() {
        Run r = new Run("step 21: without hypotheses, P x, no free variable in P");
        int truths = r.truths();
        int p = r.truth(0);
        int i = r.identity(truths);
        int same = r.step(10, i);
        r.fails("a hypothesis", 21, r.under(p, same));
        r.fails("a free variable in P", 21, r.step(10, p));
        int defined = r.step(20, r.equal(r.function(truths, truths), i, i));
        int constant = r.constant(2, truths);
        int alone = r.step(16, r.turned(defined, constant), same);
        r.conclusionIs("a constant", alone, 10);
        r.fails("no application", 21, alone);
        int first = r.step(20, i) + 1;
        int second = r.step(21, same);
        Checks.same("two sequents", second, first + 1);
        r.conclusionIs("TO (FRO a) = a", first, -1, -1, 2, -1, 18, -1, 22, 1, 1);
        r.typeIs("T takes none", first, 8, 3);
        r.conclusionIs("P r = (FRO (TO r) = r)", second,
            -1, -1, 2, -1, -1, 2, -2, 0, 1, -1, -1, 2, -1, 22, -1, 18, 1, 1);
    }

    private static void step21FreeVariables() {
        for (int n : new int[] {0, 1, 2, 3, 4, 5, 99999999}) {
            Run r = new Run("step 21: free variable " + n);
            r.fails("in P", 21, r.step(10, r.truth(n)));
            r.fails("inside of P", 21, r.step(10, r.lambda(r.truths(), r.truth(n))));
            r.step(21, r.step(10, r.lambda(r.truths(), r.lambda(r.truths(), r.bound(1, r.truths())))));
            r.does("none in P");
        }
    }

    /** P x, P of truths and constantly i = i, of so many type variables that are not in its type. */
    private static int always(Run r, int... variables) {
        int truths = r.truths();
        int identity = r.bound(0, r.typeVariable(variables[0]));
        for (int n : variables) {
            identity = r.lambda(r.typeVariable(n), identity);
        }
        // The type of \z. \y. .. \x. x, the innermost over the first.
        int type = r.typeVariable(variables[0]);
        for (int n : variables) {
            type = r.function(r.typeVariable(n), type);
        }
        int holds = r.step(10, identity);
        int applied = r.apply(r.lambda(truths, r.equal(type, identity, identity)), r.truth(4));
        return r.step(16, r.turned(r.step(14, applied), applied), holds);
    }

    private static void step21TypeVariables() {
        Run r = new Run("step 21: at most two type variables");
        int one = r.step(21, always(r, 7)) - 1;
        r.typeIs("one", one, 8, 3, -8);
        int two = r.step(21, always(r, 9, 5)) - 1;
        r.typeIs("two, in rising order", two, 8, 4, -6, -10);
        int rising = r.step(21, always(r, 5, 9)) - 1;
        r.typeIs("two that came in rising order", rising, 8, 5, -6, -10);
        Run not = new Run("step 21: three type variables");
        not.fails("three", 21, always(not, 3, 2, 1));
        int again = not.step(21, always(not, 3, 2)) - 1;
        not.typeIs("two", again, 8, 3, -3, -4);
    }

    /** c = \x. (i = i), and from that: c y. */
    private static void step21OfAConstantAlone() {
        Run r = new Run("step 21: P is a constant, T takes type variable 0");
        int a = r.typeVariable(0);
        int truths = r.truths();
        int i = r.identity(truths);
        int always = r.lambda(a, r.equal(r.function(truths, truths), i, i));
        int y = r.free(6, a);
        int applied = r.step(12, r.step(20, always), r.step(10, y));
        int equal = r.step(11, applied, r.step(14, r.apply(always, y)));
        int c = r.apply(r.constant(2, r.function(a, truths)), y);
        int holds = r.step(16, r.turned(equal, c), r.step(10, i));
        r.conclusionIs("c y", holds, -1, 10, 25);
        int first = r.step(21, holds) - 1;
        r.typeIs("T of 'a", first, 8, 3, -1);
        r.conclusionIs("c r = (FRO (TO r) = r)", first + 1, -1, -1, 2, -1, 10, 1, -1, -1, 2, -1, 18, -1, 14, 1, 1);
        Run wide = new Run("step 21: type variables 0 and 99999999");
        int both = wide.step(21, always(wide, 99999999, 0)) - 1;
        wide.typeIs("in rising order", both, 8, 3, -1, -100000000);
    }

    private static void step22() {
        Run r = new Run("step 22: axioms 0, 1, 2");
        for (int k : new int[] {-1, 3, Integer.MIN_VALUE, Integer.MAX_VALUE}) {
            r.fails("axiom " + k, 22, k);
        }
        int a = r.step(22, 0);
        int b = r.step(22, 1);
        int c = r.step(22, 2);
        r.conclusionIs("axiom 0", a, -1, -1, 2, -2, -1, 5, 0, 5);
        r.lengthIs("axiom 1", b, -1, 39);
        r.symbolIs("axiom 1 ends with P x", b, -1, 37, 5);
        r.symbolIs("axiom 2 is an application", c, -1, 0, -1);
        r.symbolIs("of an abstraction", c, -1, 1, -2);
        r.hypothesesAre("axiom 2", c, 0);
    }
}
