/** Promise 3: judge reads entries up to the first that will not do, and counts steps; the entries themselves. */
public final class JudgeTest {
    public static void main(String[] args) {
        countsStepsAlone();
        stopsAtTheFirstFault();
        entriesThatAreNotWhole();
        kindsThatThereAreNot();
        types();
        variables();
        constants();
        applications();
        abstractions();
        sameOnesHaveTwoNumbers();
        Checks.end();
    }

    private static void countsStepsAlone() {
        Scribe s = new Scribe();
        s.does("nothing said", 0);
        s.does("types and terms", 0, 1, 0, 2, 0, 0, 2, 1, 0);
        s.does("three steps among entries", 3, 15, 0, 2, 2, 0, 10, 2, 0, 5, 15, 1);
        s.does("all is gone then", 0);
        Checks.same("size", s.judge.size(), 3);
    }

    private static void stopsAtTheFirstFault() {
        Scribe s = new Scribe();
        s.say(1, 0, 2, 0, 0, 15, 0, 15, 1, 15, 0, 2, 1, 0);
        Checks.same("one step before the fault", s.judge.judge(), 1);
        Checks.same("fault", s.judge.fault(), 7);
        Checks.same("size", s.judge.size(), 1);
        s.fails("what stood behind the fault was not read", 15, 1);
        s.step(15, 0);
    }

    private static void entriesThatAreNotWhole() {
        int[][] entries = {{0}, {1}, {1, 2}, {1, 2, 0}, {2}, {2, 0}, {3}, {3, 0}, {4}, {4, 0}, {5}, {5, 0},
            {6}, {6, 0}, {10}, {11}, {11, 0}, {12}, {12, 0}, {13}, {13, 0}, {14}, {15}, {16}, {16, 0}, {17},
            {17, 0}, {18}, {18, 0}, {18, 0, 0}, {19}, {19, 0}, {19, 0, 1}, {19, 0, 1, 0}, {20}, {21}, {22}};
        for (int[] entry : entries) {
            Scribe s = new Scribe();
            s.does("what they name", 1, 1, 0, 2, 0, 0, 10, 0);
            s.fails("kind " + entry[0] + " with " + entry.length, entry);
        }
    }

    private static void kindsThatThereAreNot() {
        Scribe s = new Scribe();
        s.does("what they might name", 1, 1, 0, 2, 0, 0, 10, 0);
        for (int kind : new int[] {-1, 7, 8, 9, 23, 24, 100, Integer.MIN_VALUE, Integer.MAX_VALUE}) {
            s.fails("kind " + kind, kind, 0, 0, 0, 0);
        }
    }

    private static void types() {
        Scribe s = new Scribe();
        s.type(0, 0);
        s.type(0, 99999999);
        s.fails("type variable -1", 0, -1);
        s.fails("type variable 100000000", 0, 100000000);
        s.fails("constructor -1", 1, -1, 0, 0);
        s.fails("constructor 3", 1, 3, 0, 0);
        s.function(0, 1);
        s.fails("from no type", 1, 2, 3, 0);
        s.fails("to no type", 1, 2, 0, 3);
        s.fails("to type -1", 1, 2, 0, -1);
        s.term(2, 0, 2);
        s.step(10, 0);
        s.typeAt("a function of type variables", 0, 3, 2, -1, -100000000);
    }

    private static void variables() {
        Scribe s = new Scribe();
        s.type(1, 1);
        s.term(2, 0, 0);
        s.term(2, 99999999, 0);
        s.fails("free variable -1", 2, -1, 0);
        s.fails("free variable 100000000", 2, 100000000, 0);
        s.fails("free variable of no type", 2, 0, 1);
        s.fails("free variable of type -1", 2, 0, -1);
        s.term(6, 0, 0);
        s.term(6, 119, 0);
        s.fails("bound variable -1", 6, -1, 0);
        s.fails("bound variable 120", 6, 120, 0);
        s.fails("bound variable of no type", 6, 0, 1);
        s.step(10, 1);
        s.conclusion("the highest variable", 0, -1, -1, 2, 399999997, 399999997);
        s.fails("a bound variable is not closed", 10, 2);
    }

    private static void constants() {
        Scribe s = new Scribe();
        int a = s.type(0, 7);
        int truths = s.type(1, 0);
        int things = s.type(1, 1);
        int toTruths = s.function(a, truths);
        int equality = s.function(a, toTruths);
        s.term(3, 0, equality);
        s.term(3, 1, s.function(toTruths, a));
        s.fails("equality of things and another", 3, 0, s.function(things, toTruths));
        s.fails("equality that answers things", 3, 0, s.function(a, s.function(a, things)));
        s.fails("equality of truths", 3, 0, truths);
        s.fails("equality of a type variable", 3, 0, a);
        s.fails("choice of equality's type", 3, 1, equality);
        s.fails("choice that answers another", 3, 1, s.function(toTruths, things));
        int functions = s.function(things, things);
        s.term(3, 0, s.function(functions, s.function(functions, truths)));
        s.fails("constant -1", 3, -1, equality);
        s.fails("constant 2", 3, 2, equality);
        s.fails("constant of no type", 3, 0, 99);
    }

    private static void applications() {
        Scribe s = new Scribe();
        int truths = s.type(1, 0);
        int things = s.type(1, 1);
        int f = s.term(2, 0, s.function(things, truths));
        int x = s.term(2, 0, things);
        int p = s.term(2, 0, truths);
        int fx = s.term(4, f, x);
        s.fails("of another type", 4, f, p);
        s.fails("of what is no function", 4, x, x);
        s.fails("to itself", 4, f, f);
        s.fails("of no term", 4, 9, x);
        s.fails("to no term", 4, f, 9);
        s.fails("of term -1", 4, -1, x);
        s.step(15, fx);
        s.conclusion("f x", 0, -1, Scribe.free(0), Scribe.free(0));
        s.typeAt("f x", 0, 0, 0);
        s.typeAt("f", 0, 1, 2, 1, 0);
        s.typeAt("x", 0, 2, 1);
    }

    private static void abstractions() {
        Scribe s = new Scribe();
        int truths = s.type(1, 0);
        int things = s.type(1, 1);
        int f = s.term(2, 0, s.function(things, s.function(truths, things)));
        int outer = s.term(6, 1, things);
        int inner = s.term(6, 0, truths);
        int body = s.term(4, s.term(4, f, outer), inner);
        s.fails("over another type than what it binds is of", 5, things, body);
        s.fails("over no type", 5, 9, body);
        s.fails("over no body", 5, things, 99);
        int one = s.term(5, truths, body);
        s.fails("what it binds is of another type, one further out", 5, truths, one);
        int two = s.term(5, things, one);
        s.fails("not closed", 10, one);
        s.step(10, two);
        s.conclusion("\\x. \\p. f x p", 0, -1, -1, 2, -2, -2, -1, -1, 1, 4, 0, -2, -2, -1, -1, 1, 4, 0);
        s.typeAt("its type", 0, 3, 2, 1, 2, 0, 1);
        int constantly = s.term(5, truths, s.term(2, 5, things));
        s.step(10, constantly);
        s.conclusion("it binds nothing", 1, -1, -1, 2, -2, 21, -2, 21);
        int twice = s.term(5, truths, s.term(5, things, s.term(4, s.term(2, 1, s.function(truths, things)),
            s.term(6, 1, truths))));
        s.step(10, twice);
    }

    private static void sameOnesHaveTwoNumbers() {
        Scribe s = new Scribe();
        int a = s.type(1, 1);
        int b = s.type(1, 1);
        int f = s.term(2, 0, s.function(a, a));
        int x = s.term(2, 0, b);
        Checks.same("the second number", b, 1);
        s.step(10, s.term(4, f, x));
    }
}
