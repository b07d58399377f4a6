import java.util.Arrays;

/** The document's Terms: what an entry may name and what not, on both sides of each bound. */
public final class EntryEdgesTest {
    private static final int LOW = Integer.MIN_VALUE;
    private static final int HIGH = Integer.MAX_VALUE;

    public static void main(String[] args) {
        typeVariableNumbers();
        constructorNumbers();
        constructorsTakeAsManyTypes();
        freeVariableNumbers();
        constantNumbers();
        constantTypes();
        constantsOfHighTypes();
        boundVariableNumbers();
        typesAreThereAlready();
        termsAreThereAlready();
        sequentsAreThereAlready();
        sameOnesHaveTwoNumbers();
        numbersOfWhatWouldNotDoAreFree();
        applicationsOfFunctions();
        abstractionsBindOneType();
        abstractionsOfApplications();
        closedTermsAlone();
        boundFarOut();
        kindsOfEntries();
        entriesAreWhole();
        lastEntryIsNotWhole();
        lastEntryIsWhole();
        Checks.end();
    }

    private static void typeVariableNumbers() {
        Run r = new Run("type variables are 0 .. 99999999");
        for (int n : new int[] {-1, 100000000, LOW, HIGH}) {
            r.fails("type variable " + n, 0, n);
        }
        int a = r.step(10, r.free(0, r.function(r.typeVariable(0), r.typeVariable(99999999))));
        r.typeIs("0 and 99999999", a, 3, 2, -1, -100000000);
    }

    private static void constructorNumbers() {
        Run r = new Run("constructors are 0, 1, 2, and those that steps made");
        int truths = r.truths();
        int things = r.things();
        int function = r.function(truths, things);
        for (int c : new int[] {-1, 3, LOW, HIGH}) {
            r.fails("constructor " + c, 1, c, 0, 0);
        }
        r.typeIs("0 is truths", r.step(10, r.free(0, truths)), 3, 0);
        r.typeIs("1 is things", r.step(10, r.free(0, things)), 3, 1);
        r.typeIs("2 is functions", r.step(10, r.free(0, function)), 3, 2, 0, 1);
        r.makeConstructor3();
        int made = r.type(1, 3, things);
        r.fails("constructor 4", 1, 4, things);
        r.typeIs("3 is there then", r.step(10, r.free(0, made)), 3, 3, 1);
    }

    private static void constructorsTakeAsManyTypes() {
        Run r = new Run("constructors take as many types as they do");
        r.truths();
        r.things();
        r.makeConstructor3();
        int high = r.typeVariable(8);
        int low = r.typeVariable(3);
        int ofTwo = r.lambda(high, r.lambda(low, r.bound(1, high)));
        r.step(21, r.step(10, ofTwo));
        int ofNone = r.identity(r.truths());
        r.step(21, r.step(10, ofNone));
        r.fails("functions of one", 1, 2, 0);
        r.fails("functions of none", 1, 2);
        r.fails("one that takes one, of none", 1, 3);
        r.fails("one that takes two, of one", 1, 4, 0);
        r.type(1, 0);
        r.type(1, 1);
        r.type(1, 2, 0, 1);
        r.type(1, 3, 1);
        int two = r.type(1, 4, 0, 1);
        int none = r.type(1, 5);
        r.type(1, 3, 1);
        r.fails("a number behind what takes one begins the next entry", 99);
        r.typeIs("of truths, things", r.step(10, r.term(2, 0, two)), 3, 4, 0, 1);
        r.typeIs("of none", r.step(10, r.term(2, 0, none)), 3, 5);
    }

    private static void freeVariableNumbers() {
        Run r = new Run("free variables are 0 .. 99999999");
        int a = r.things();
        for (int n : new int[] {-1, 100000000, LOW, HIGH}) {
            r.fails("free variable " + n, 2, n, a);
        }
        r.conclusionIs("0", r.step(10, r.free(0, a)), -1, -1, 2, 1, 1);
        r.conclusionIs("99999999", r.step(10, r.free(99999999, a)), -1, -1, 2, 399999997, 399999997);
    }

    private static void constantNumbers() {
        Run r = new Run("constants are 0, 1, and those that steps made");
        int truths = r.truths();
        int property = r.function(truths, truths);
        int relation = r.function(truths, property);
        int choice = r.function(property, truths);
        for (int c : new int[] {-1, 2, LOW, HIGH}) {
            r.fails("constant " + c, 3, c, relation);
        }
        r.conclusionIs("0", r.step(10, r.constant(0, relation)), -1, -1, 2, 2, 2);
        r.conclusionIs("1", r.step(10, r.constant(1, choice)), -1, -1, 2, 6, 6);
        r.step(20, r.identity(truths));
        int made = r.constant(2, property);
        r.fails("constant 3", 3, 3, property);
        r.conclusionIs("2 is there then", r.step(10, made), -1, -1, 2, 10, 10);
        r.step(21, r.step(10, r.identity(truths)));
        int there = r.function(property, r.type(1, 3));
        int back = r.function(r.type(1, 3), property);
        r.constant(3, there);
        r.constant(4, back);
        r.fails("constant 5", 3, 5, property);
    }

    private static void constantTypes() {
        Run r = new Run("a constant's type is one that its own becomes");
        int truths = r.truths();
        int things = r.things();
        int a = r.typeVariable(0);
        int b = r.typeVariable(1);
        int ofB = r.function(b, truths);
        r.constant(0, r.function(a, r.function(a, truths)));
        r.constant(0, r.function(b, ofB));
        r.constant(0, r.function(ofB, r.function(ofB, truths)));
        r.constant(1, r.function(ofB, b));
        r.fails("equality of 'b and 'a", 3, 0, r.function(b, r.function(a, truths)));
        r.fails("equality that answers things", 3, 0, r.function(a, r.function(a, things)));
        r.fails("equality that answers 'a", 3, 0, r.function(a, r.function(a, a)));
        r.fails("equality of one", 3, 0, ofB);
        r.fails("equality that is no function", 3, 0, a);
        r.fails("choice that answers 'a", 3, 1, r.function(ofB, a));
        r.fails("choice of a relation", 3, 1, r.function(r.function(b, ofB), b));
        r.step(20, r.identity(things));
        r.constant(2, r.function(things, things));
        r.fails("a constant without type variables, of truths", 3, 2, r.function(truths, truths));
        r.fails("and of type variables", 3, 2, r.function(a, a));
    }

    /** Own types of height 22, the highest that step 20 can make. */
    private static void constantsOfHighTypes() {
        Run r = new Run("constants of high types");
        int truths = r.truths();
        int to = truths;
        int from = truths;
        for (int h = 2; h <= 21; h++) {
            to = r.function(truths, to);
            from = r.function(from, truths);
        }
        int i = r.identity(truths);
        int holds = r.equal(r.function(truths, truths), i, i);
        r.step(20, r.lambda(to, holds));
        r.step(20, r.lambda(from, holds));
        r.constant(2, r.function(to, truths));
        r.constant(3, r.function(from, truths));
        r.fails("the one of the other's type", 3, 2, r.function(from, truths));
        r.fails("the other of the one's", 3, 3, r.function(to, truths));
        r.constant(1, r.function(r.function(to, truths), to));
        r.constant(1, r.function(r.function(from, truths), from));
        r.does("choice of high types");
    }

    private static void boundVariableNumbers() {
        Run r = new Run("bound variables are 0 .. 119");
        int a = r.things();
        for (int i : new int[] {-1, 120, LOW, HIGH}) {
            r.fails("bound variable " + i, 6, i, a);
        }
        int first = r.bound(0, a);
        r.bound(119, a);
        r.does("0 and 119");
        r.conclusionIs("0 is the innermost", r.step(10, r.lambda(a, r.lambda(a, first))),
            -1, -1, 2, -2, -2, 0, -2, -2, 0);
    }

    /** In an entry that does, the place has the highest number that does; no number out of bounds does. */
    private static void named(String what, int[] before, int place, int count, int... entry) {
        Run r = new Run(what);
        r.say(before);
        int steps = stepsAmong(before);
        r.judges("what it names", steps);
        r.faultIs("what it names", -1);
        for (int wrong : new int[] {-1, count, HIGH, LOW}) {
            int[] amiss = entry.clone();
            amiss[place] = wrong;
            r.say(amiss);
            r.judges("with " + wrong, 0);
            r.faultIs("with " + wrong, 0);
        }
        r.say(entry);
        r.judges("as it is", entry[0] < 10 ? 0 : 1);
        r.faultIs("as it is", -1);
        int twice = before[before.length - 2] == 21 ? 1 : 0;
        r.sizeIs("as it is", steps + twice + (entry[0] < 10 ? 0 : entry[0] == 21 ? 2 : 1));
    }

    /** Of entries without constructors that steps made; step 19 has no types put in here. */
    private static int stepsAmong(int[] entries) {
        int[] lengths = {2, 0, 3, 3, 3, 3, 3, 0, 0, 0, 2, 3, 3, 3, 2, 2, 3, 3, 4, 3, 2, 2, 2};
        int steps = 0;
        int at = 0;
        while (at < entries.length) {
            steps += entries[at] < 10 ? 0 : 1;
            at += entries[at] == 1 ? (entries[at + 1] == 2 ? 4 : 2) : lengths[entries[at]];
        }
        return steps;
    }

    private static void typesAreThereAlready() {
        int[] two = {1, 1, 1, 0};
        named("what a function is from", two, 2, 2, 1, 2, 1, 0);
        named("what a function is to", two, 3, 2, 1, 2, 0, 1);
        int[] takesOne = {1, 0, 0, 0, 6, 0, 1, 5, 1, 0, 10, 1, 21, 0};
        named("what a constructor that takes one takes", takesOne, 2, 2, 1, 3, 1);
        int[] takesTwo = {0, 0, 0, 1, 6, 1, 0, 5, 1, 0, 5, 0, 1, 10, 2, 21, 0};
        named("the first that a constructor of two takes", takesTwo, 2, 2, 1, 3, 1, 0);
        named("the second that a constructor of two takes", takesTwo, 3, 2, 1, 3, 0, 1);
        named("a free variable's type", two, 2, 2, 2, 0, 1);
        named("a constant's type", new int[] {1, 0, 1, 2, 0, 0, 1, 2, 0, 1}, 2, 3, 3, 0, 2);
        named("what an abstraction is over", new int[] {1, 1, 1, 0, 2, 0, 0}, 1, 2, 5, 1, 0);
        named("a bound variable's type", two, 2, 2, 6, 0, 1);
        named("a type that is put in", new int[] {1, 1, 0, 0, 2, 0, 1, 10, 0}, 4, 2, 19, 0, 1, 0, 1);
    }

    private static void termsAreThereAlready() {
        int[] function = {1, 0, 1, 2, 0, 0, 2, 0, 0, 2, 0, 1};
        int[] argument = {1, 0, 1, 2, 0, 0, 2, 0, 1, 2, 0, 0};
        int[] two = {1, 0, 2, 0, 0, 2, 1, 0};
        int[] twoAndOne = {1, 0, 2, 0, 0, 2, 1, 0, 10, 0};
        int[] identity = {1, 0, 6, 0, 0, 5, 0, 0};
        int[] reducible = {1, 0, 6, 0, 0, 5, 0, 0, 2, 0, 0, 4, 1, 2};
        named("what is applied", function, 1, 2, 4, 1, 0);
        named("what it is applied to", argument, 2, 2, 4, 0, 1);
        named("an abstraction's body", two, 2, 2, 5, 0, 1);
        named("step 10", two, 1, 2, 10, 1);
        named("step 13's variable", twoAndOne, 1, 2, 13, 1, 0);
        named("step 14", reducible, 1, 4, 14, 3);
        named("step 15", two, 1, 2, 15, 1);
        named("step 18's variable", twoAndOne, 2, 2, 18, 0, 1, 0);
        named("step 18's term", twoAndOne, 3, 2, 18, 0, 0, 1);
        named("step 20", identity, 1, 2, 20, 1);
    }

    private static void sequentsAreThereAlready() {
        int[] twoEquations = {1, 0, 2, 0, 0, 10, 0, 10, 0};
        // p = p and f = f, in both orders.
        int[] functionLast = {1, 0, 1, 2, 0, 0, 2, 0, 0, 2, 0, 1, 10, 0, 10, 1};
        int[] functionFirst = {1, 0, 1, 2, 0, 0, 2, 0, 0, 2, 0, 1, 10, 1, 10, 0};
        // p with itself and p = p, (p = p) = (p = p) and p = p.
        int[] twoTruths = {1, 0, 2, 0, 0, 10, 0, 15, 0};
        int[] same = {1, 0, 1, 2, 0, 0, 1, 2, 0, 1, 2, 0, 0, 3, 0, 2, 4, 1, 0, 4, 2, 0};
        named("step 11's first", twoEquations, 1, 2, 11, 1, 0);
        named("step 11's second", twoEquations, 2, 2, 11, 0, 1);
        named("step 12's first", functionLast, 1, 2, 12, 1, 0);
        named("step 12's second", functionFirst, 2, 2, 12, 0, 1);
        named("step 13", twoEquations, 2, 2, 13, 0, 1);
        named("step 16's first", joined(same, 10, 0, 10, 3), 1, 2, 16, 1, 0);
        named("step 16's second", joined(same, 10, 3, 10, 0), 2, 2, 16, 0, 1);
        named("step 17's first", twoTruths, 1, 2, 17, 1, 0);
        named("step 17's second", twoTruths, 2, 2, 17, 0, 1);
        named("step 18", twoTruths, 1, 2, 18, 1, 0, 0);
        named("step 19", twoTruths, 1, 2, 19, 1, 0);
        named("step 21", new int[] {1, 0, 6, 0, 0, 5, 0, 0, 10, 1, 10, 1}, 1, 2, 21, 1);
    }

    private static int[] joined(int[] first, int... second) {
        int[] all = Arrays.copyOf(first, first.length + second.length);
        System.arraycopy(second, 0, all, first.length, second.length);
        return all;
    }

    private static void sameOnesHaveTwoNumbers() {
        Run r = new Run("two that are the same have two numbers");
        r.type(1, 1);
        r.type(1, 1);
        r.type(1, 2, 0, 1);
        r.term(2, 7, 0);
        r.term(2, 7, 1);
        r.term(2, 8, 2);
        r.term(4, 2, 0);
        r.term(4, 2, 1);
        r.fails("type 3", 2, 0, 3);
        r.fails("term 5", 10, 5);
        int one = r.step(10, 3);
        int two = r.step(10, 4);
        int both = r.step(11, one, two);
        r.conclusionIs("they are the same", both, -1, -1, 2, -1, 33, 29, -1, 33, 29);
    }

    private static void numbersOfWhatWouldNotDoAreFree() {
        Run r = new Run("what will not do has no number");
        r.type(1, 0);
        r.fails("no type", 0, -1);
        r.fails("nor type 1", 2, 0, 1);
        r.type(1, 1);
        r.term(2, 5, 0);
        r.fails("no term", 4, 0, 0);
        r.fails("nor term 1", 10, 1);
        r.term(2, 6, 1);
        r.fails("no sequent", 15, 1);
        r.fails("nor sequent 0", 17, 0, 0);
        int a = r.step(10, 1);
        r.conclusionIs("term 1 is the next one", a, -1, -1, 2, 25, 25);
        r.typeIs("of type 1", a, 3, 1);
    }

    private static void applicationsOfFunctions() {
        Run r = new Run("applications are of functions to what these are from");
        int truths = r.truths();
        int things = r.things();
        int p = r.free(0, truths);
        int x = r.free(0, things);
        int f = r.free(0, r.function(things, truths));
        r.fails("f p", 4, f, p);
        r.fails("f f", 4, f, f);
        r.fails("x x", 4, x, x);
        r.fails("p f", 4, p, f);
        r.fails("a type variable's variable", 4, r.free(0, r.typeVariable(0)), x);
        int a = r.step(15, r.apply(f, x));
        r.conclusionIs("f x", a, -1, 1, 1);
        r.makeConstructor3();
        int other = r.free(0, r.type(1, 3, things));
        r.fails("another constructor is none of functions", 4, other, x);
    }

    private static void abstractionsBindOneType() {
        Run r = new Run("what an abstraction binds is of the type that it is over");
        int truths = r.truths();
        int things = r.things();
        int here = r.bound(0, things);
        int further = r.bound(1, things);
        r.fails("\\p. 0 of things", 5, truths, here);
        r.lambda(things, here);
        // Bound by an abstraction further out, whatever it is.
        int inner = r.lambda(truths, further);
        r.fails("\\p. \\p. 1 of things", 5, truths, inner);
        int outer = r.lambda(things, inner);
        int a = r.step(10, outer);
        r.conclusionIs("\\x. \\p. 1", a, -1, -1, 2, -2, -2, 4, -2, -2, 4);
        // An inner one's own variable is no matter to the outer one.
        r.lambda(truths, r.lambda(things, here));
        // Behind an inner abstraction that has ended, 0 is the outer one's again.
        int f = r.free(0, r.function(r.function(truths, truths), r.function(things, truths)));
        int sides = r.apply(r.apply(f, r.lambda(truths, r.bound(0, truths))), here);
        r.fails("\\p. f (\\p. 0) 0 of things", 5, truths, sides);
        r.lambda(things, sides);
        int g = r.free(1, r.function(things, r.function(truths, truths)));
        int mixed = r.apply(r.apply(g, here), r.bound(0, truths));
        r.fails("0 of things and of truths, over things", 5, things, mixed);
        r.fails("0 of things and of truths, over truths", 5, truths, mixed);
        r.does("all others");
    }

    /** Term 0 is bound, and of another type than what the abstraction binds. */
    private static void abstractionsOfApplications() {
        Run r = new Run("abstractions of applications");
        int truths = r.truths();
        int other = r.bound(0, r.things());
        int f = r.free(0, r.function(truths, r.function(truths, truths)));
        int here = r.bound(0, truths);
        int once = r.apply(r.apply(f, here), r.truth(1));
        int twice = r.apply(r.apply(f, once), once);
        r.conclusionIs("\\p. f p q", r.step(10, r.lambda(truths, once)),
            -1, -1, 2, -2, -1, -1, 1, 0, 5, -2, -1, -1, 1, 0, 5);
        r.step(10, r.lambda(truths, twice));
        r.fails("over things", 5, r.things(), twice);
        r.step(10, r.lambda(r.things(), other));
        r.does("and over things what is of things");
    }

    private static void closedTermsAlone() {
        Run r = new Run("terms of steps are closed");
        int truths = r.truths();
        int p = r.truth(0);
        int open = r.bound(0, truths);
        int inside = r.lambda(truths, r.bound(1, truths));
        int applied = r.apply(r.identity(truths), open);
        int reducible = r.apply(inside, p);
        int a = r.step(15, p);
        for (int t : new int[] {open, inside, applied, reducible}) {
            r.fails("step 10 of open term " + t, 10, t);
        }
        for (int t : new int[] {open, applied, reducible}) {
            r.fails("step 15 of open term " + t, 15, t);
            r.fails("step 18 with open term " + t, 18, a, p, t);
        }
        r.fails("step 14 of an open term", 14, reducible);
        r.fails("step 14 of one applied to what is bound", 14, applied);
        r.fails("step 20 of an open term", 20, inside);
        r.fails("step 13 over what is bound", 13, open, r.step(10, p));
        r.fails("step 18 for what is bound", 18, a, open, p);
        int closed = r.lambda(truths, inside);
        r.step(10, closed);
        r.step(20, closed);
        r.step(15, r.apply(r.identity(truths), p));
        r.step(14, r.apply(r.lambda(truths, r.bound(0, truths)), p));
        r.step(18, a, p, r.apply(r.identity(truths), p));
        r.does("closed ones");
    }

    /** \x. (\y. (\y. .. x) p) p: the innermost x is bound 57 abstractions out. */
    private static void boundFarOut() {
        Run r = new Run("bound far out");
        int truths = r.truths();
        int p = r.truth(3);
        int t = r.bound(57, truths);
        for (int level = 0; level < 57; level++) {
            t = r.apply(r.lambda(truths, t), p);
        }
        r.fails("not closed yet", 10, t);
        int f = r.lambda(truths, t);
        int a = r.step(14, r.apply(f, r.truth(9)));
        // 3 symbols of equality, 1 of the application, 1 of f, 3 of each level, x, 57 p that are behind it.
        r.symbolIs("x, in what is applied", a, -1, 5 + 2 * 57, 4 * 57);
        r.symbolIs("what it is applied to", a, -1, 5 + 3 * 57 + 1, 37);
        r.symbolIs("the variable, in what comes of it", a, -1, 5 + 3 * 57 + 2 + 2 * 57, 37);
        r.lengthIs("all of it", a, -1, 5 + 3 * 57 + 2 + 3 * 57 + 1);
    }

    private static void kindsOfEntries() {
        Run r = new Run("kinds of entries are 0 .. 6 and 10 .. 22");
        r.step(10, r.truth(0));
        for (int kind : new int[] {-1, 7, 8, 9, 23, 24, LOW, HIGH}) {
            r.fails("kind " + kind, kind, 0, 0, 0);
        }
        r.fails("kind 7 alone", 7);
        r.fails("kind 23 alone", 23);
        r.step(22, 0);
        r.does("kind 22");
    }

    /** Each entry will do when it is whole, and not when it ends before. */
    private static void entriesAreWhole() {
        int[] base = {1, 0, 1, 2, 0, 0, 2, 0, 0, 2, 0, 1, 6, 0, 0, 5, 0, 2, 4, 3, 0, 10, 0, 10, 3, 15, 0, 10, 4,
            1, 2, 0, 1, 3, 0, 2, 4, 5, 0, 4, 6, 0, 10, 7};
        int[][] entries = {{0, 0}, {1, 0}, {1, 2, 0, 0}, {2, 0, 0}, {3, 0, 2}, {4, 1, 0}, {5, 0, 0}, {6, 0, 0},
            {10, 0}, {11, 0, 0}, {12, 1, 0}, {13, 0, 0}, {14, 4}, {15, 0}, {16, 4, 0}, {17, 0, 2}, {18, 2, 0, 0},
            {19, 0, 0}, {19, 0, 1, 0, 0}, {19, 0, 2, 0, 0, 1, 0}, {20, 3}, {21, 1}, {22, 0}};
        for (int[] entry : entries) {
            Run r = new Run("an entry of kind " + entry[0] + ", of " + entry.length + " numbers");
            r.say(base);
            r.judges("what it names", 5);
            for (int length = 1; length < entry.length; length++) {
                r.say(Arrays.copyOf(entry, length));
                r.judges("not whole, " + length, 0);
                r.faultIs("not whole, " + length, 0);
                r.sizeIs("not whole, " + length, 5);
            }
            r.say(entry);
            r.judges("whole", entry[0] < 10 ? 0 : 1);
            r.faultIs("whole", -1);
        }
    }

    /** Whatever stands before it, and whatever its kind. */
    private static void lastEntryIsNotWhole() {
        for (int before = 4; before < 500; before += before < 40 ? 1 : 7) {
            for (int kind : new int[] {1, 4, 18, 19}) {
                endsAmiss(before, kind);
            }
        }
        for (int before : new int[] {61, 62, 63, 125, 126, 127, 253, 254, 255}) {
            endsAmiss(before, 19, 0);
            endsAmiss(before, 18, 0, 0);
            endsAmiss(before, 1);
            endsAmiss(before, 7);
        }
    }

    private static void endsAmiss(int before, int... entry) {
        Run r = new Run("kind " + entry[0] + " behind " + before + " numbers");
        sayTypes(r, before);
        r.say(entry);
        r.judges("it will not do", 0);
        r.faultIs("it will not do", before);
    }

    /** Types of so many numbers, 4 or more; an odd number has a term among them. */
    private static void sayTypes(Run r, int numbers) {
        int rest = numbers;
        if (rest % 2 == 1) {
            r.say(1, 0, 2, 0, 0);
            rest -= 5;
        }
        for (; rest > 0; rest -= 2) {
            r.say(1, 0);
        }
    }

    private static void lastEntryIsWhole() {
        for (int before = 4; before < 500; before += before < 70 ? 1 : before < 245 ? 5 : 3) {
            Run two = new Run("an entry of two numbers behind " + before);
            sayTypes(two, before);
            two.say(0, 7);
            two.judges("it will do", 0);
            two.faultIs("it will do", -1);
            Run three = new Run("an entry of three numbers behind " + before);
            sayTypes(three, before);
            three.say(2, 7, 0);
            three.judges("it will do", 0);
            three.faultIs("it will do", -1);
        }
    }
}
