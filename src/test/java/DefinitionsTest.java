/** Promise 3, the steps 20 and 21: new constants and constructors. */
public final class DefinitionsTest {
    public static void main(String[] args) {
        newConstant();
        newConstantThatWillNotDo();
        newConstructor();
        newConstructorOfTwoTypes();
        newConstructorOfNone();
        newConstructorThatWillNotDo();
        whatFailedLeavesNothing();
        Checks.end();
    }

    private static void newConstant() {
        Scribe s = new Scribe();
        int a = s.type(0, 4);
        int identity = s.term(5, a, s.term(6, 0, a));
        int d = s.step(20, identity);
        s.conclusion("constant 2 = \\x. x", d, -1, -1, 2, Scribe.constant(2), -2, 0);
        s.hypotheses("it", d, 0);
        s.typeAt("its type", d, 3, 2, -5, -5);
        int truths = s.type(1, 0);
        s.term(3, 2, s.function(truths, truths));
        s.fails("of another type", 3, 2, s.function(truths, a));
        s.fails("constant 3", 3, 3, s.function(truths, truths));
        int again = s.step(20, identity);
        s.conclusion("constant 3", again, -1, -1, 2, Scribe.constant(3), -2, 0);
        int more = s.step(20, s.term(3, 3, s.function(truths, truths)));
        s.conclusion("constant 4 = constant 3", more, -1, -1, 2, Scribe.constant(4), Scribe.constant(3));
        s.term(3, 4, s.function(truths, truths));
        s.fails("constant 4 has no type variable", 3, 4, s.function(a, a));
    }

    private static void newConstantThatWillNotDo() {
        Scribe s = new Scribe();
        int a = s.type(0, 0);
        int truths = s.type(1, 0);
        s.fails("a free variable", 20, s.term(2, 0, a));
        s.fails("a free variable inside", 20, s.term(5, a, s.term(2, 0, a)));
        s.fails("not closed", 20, s.term(6, 0, truths));
        s.fails("no term", 20, 99);
        int identity = s.term(5, a, s.term(6, 0, a));
        int functions = s.function(a, a);
        int equality = s.equality(functions, truths);
        int truth = s.term(4, s.term(4, equality, identity), identity);
        s.fails("'a is not in its type", 20, truth);
        int withA = s.term(5, a, truth);
        s.step(20, withA);
    }

    private static void newConstructor() {
        Scribe s = new Scribe();
        int a = s.type(0, 6);
        int identity = s.term(5, a, s.term(6, 0, a));
        int e = s.step(10, identity);
        int second = s.step(21, e);
        Checks.same("two sequents", second, e + 2);
        int to = Scribe.constant(2);
        int fro = Scribe.constant(3);
        s.conclusion("TO (FRO a) = a", second - 1, -1, -1, 2, -1, to, -1, fro, 1, 1);
        s.typeAt("a", second - 1, 8, 3, -7);
        s.typeAt("TO", second - 1, 4, 2, 2, -7, -7, 3, -7);
        s.typeAt("FRO", second - 1, 6, 2, 3, -7, 2, -7, -7);
        s.typeAt("FRO a", second - 1, 5, 2, -7, -7);
        s.typeAt("equality", second - 1, 2, 2, 3, -7, 2, 3, -7, 0);
        s.conclusion("P r = (FRO (TO r) = r)", second, -1, -1, 2,
            -1, -1, 2, -2, 0, 1,
            -1, -1, 2, -1, fro, -1, to, 1, 1);
        s.typeAt("r", second, 8, 2, -7, -7);
        s.typeAt("equality of truths", second, 2, 2, 0, 2, 0, 0);
        s.hypotheses("the first", second - 1, 0);
        s.hypotheses("the second", second, 0);
        int truths = s.type(1, 0);
        int made = s.type(1, 3, truths);
        s.term(3, 2, s.function(s.function(truths, truths), made));
        s.term(3, 3, s.function(made, s.function(truths, truths)));
        s.fails("FRO of another type", 3, 3, s.function(made, s.function(truths, a)));
        s.fails("constructor 4", 1, 4, truths);
        s.fails("a constructor that is not whole", 1, 3);
    }

    private static void newConstructorOfTwoTypes() {
        Scribe s = new Scribe();
        int high = s.type(0, 8);
        int low = s.type(0, 3);
        int x = s.term(5, high, s.term(5, low, s.term(6, 1, high)));
        int second = s.step(21, s.step(10, x));
        s.typeAt("in rising order", second - 1, 8, 3, -4, -9);
        int truths = s.type(1, 0);
        int made = s.type(1, 3, truths, high);
        s.fails("one type alone", 1, 3, truths);
        s.term(3, 3, s.function(made, s.function(high, s.function(truths, high))));
    }

    /** x has a free variable and two more type variables than P, which has none. */
    private static void newConstructorOfNone() {
        Scribe s = new Scribe();
        int truths = s.type(1, 0);
        int property = s.term(5, truths, s.term(6, 0, truths));
        int a = s.type(0, 0);
        int free = s.term(2, 5, a);
        int same = s.term(4, s.term(4, s.equality(a, truths), free), free);
        int reduced = s.step(14, s.term(4, property, s.term(2, 0, truths)));
        int put = s.step(18, reduced, s.term(2, 0, truths), same);
        s.conclusion("P (x = x) = (x = x)", put, -1, -1, 2, -1, -2, 0, -1, -1, 2, 21, 21, -1, -1, 2, 21, 21);
        int turned = s.step(12, s.step(12, s.step(10, s.equality(truths, truths)), put),
            s.step(10, s.term(4, property, same)));
        int back = s.step(16, turned, s.step(10, s.term(4, property, same)));
        s.conclusion("(x = x) = P (x = x)", back, -1, -1, 2, -1, -1, 2, 21, 21, -1, -2, 0, -1, -1, 2, 21, 21);
        int holds = s.step(16, back, s.step(10, free));
        s.conclusion("P (x = x)", holds, -1, -2, 0, -1, -1, 2, 21, 21);
        int second = s.step(21, holds);
        s.typeAt("it takes nothing", second - 1, 8, 3);
        s.conclusion("P r = (FRO (TO r) = r)", second, -1, -1, 2, -1, -2, 0, 1,
            -1, -1, 2, -1, Scribe.constant(3), -1, Scribe.constant(2), 1, 1);
        s.type(1, 3);
    }

    private static void newConstructorThatWillNotDo() {
        Scribe s = new Scribe();
        int truths = s.type(1, 0);
        int a = s.type(0, 0);
        int p = s.term(2, 0, truths);
        s.fails("a free variable in P", 21, s.step(10, p));
        s.fails("no sequent", 21, 99);
        s.fails("sequent -1", 21, -1);
        int identity = s.term(5, truths, s.term(6, 0, truths));
        int same = s.term(4, s.term(4, s.equality(s.function(truths, truths), truths), identity), identity);
        s.fails("hypotheses", 21, s.step(15, same));
        int constant = s.step(20, same);
        int alone = s.step(16, turned(s, constant), s.step(10, identity));
        s.conclusion("a constant alone", alone, Scribe.constant(2));
        s.fails("no application", 21, alone);
        int b = s.type(0, 1);
        int c = s.type(0, 2);
        int three = s.term(5, a, s.term(5, b, s.term(5, c, s.term(6, 0, c))));
        s.fails("three type variables", 21, s.step(10, three));
        int two = s.term(5, a, s.term(5, b, s.term(5, b, s.term(6, 0, b))));
        s.step(21, s.step(10, two));
    }

    /** Of constant 2 = r, of truths and without hypotheses: r = constant 2. */
    private static int turned(Scribe s, int equation) {
        int truths = s.type(1, 0);
        int equality = s.equality(truths, truths);
        int constant = s.term(3, 2, truths);
        int both = s.step(12, s.step(12, s.step(10, equality), equation), s.step(10, constant));
        return s.step(16, both, s.step(10, constant));
    }

    private static void whatFailedLeavesNothing() {
        Scribe s = new Scribe();
        int a = s.type(0, 0);
        int truths = s.type(1, 0);
        int x = s.term(2, 0, a);
        s.fails("a constant", 20, x);
        s.fails("a constructor", 21, s.step(10, x));
        s.fails("no constant 2", 3, 2, a);
        s.fails("no constructor 3", 1, 3);
        int identity = s.term(5, truths, s.term(6, 0, truths));
        int e = s.step(10, identity);
        int d = s.step(20, identity);
        s.conclusion("constant 2", d, -1, -1, 2, Scribe.constant(2), -2, 0);
        int second = s.step(21, e);
        s.typeAt("constructor 3", second - 1, 8, 3);
        s.conclusion("constants 3 and 4", second - 1, -1, -1, 2, -1, 14, -1, 18, 1, 1);
    }
}
