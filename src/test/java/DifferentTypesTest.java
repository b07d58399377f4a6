import java.util.HashSet;
import java.util.Set;

/**
 * The document's Terms: at most 8000 different types, on both sides, for each entry and step that
 * makes some. Runs of few calls get there by putting types into sequents that have many already; the
 * plain Reference counts how many there are.
 */
public final class DifferentTypesTest {
    private static final int MOST = 8000;
    private static final int ROUNDS = 8;

    private final Reference plain = new Reference();
    private final Run r;
    private int fresh = 1000;

    /** Says what is needed, and tells an entry that makes new types. */
    private interface Attempt {
        int[] of(Run r);
    }

    private DifferentTypesTest(String name) {
        r = new Run(name, plain);
    }

    public static void main(String[] args) {
        typesThatEntriesMake();
        typesThatStepsMake();
        typesThatDefinitionsMake();
        typesThatAxiomsMake();
        whatMakesNone();
        new DifferentTypesTest("8000 types behind a cut of entries").behindCutOfEntries();
        new DifferentTypesTest("8000 types behind a cut of a sequent").behindCutOfASequent();
        new DifferentTypesTest("8000 types behind cut 0").behindCutOfAll();
        new DifferentTypesTest("8000 types behind keep").behindKeep();
        Checks.end();
    }

    /** x = x, x of 'a to things, that to things, and so on; then twice as many types in each round. */
    private void begin(int rounds) {
        int a = r.typeVariable(0);
        int t = a;
        for (int i = 0; i < 11; i++) {
            t = r.function(t, r.things());
        }
        int last = r.step(10, r.free(0, t));
        for (int i = 0; i < rounds; i++) {
            int one = r.step(19, last, 1, 0, r.function(a, r.truths()));
            int two = r.step(19, last, 1, 0, r.function(r.truths(), a));
            last = r.step(17, one, two);
        }
        r.does("many types");
    }

    /** How many types in a sequent become new ones when a new type variable is put in for 'a. */
    private static int typesWithA(Reference.Sequent s) {
        Set<Reference.Type> all = new HashSet<>();
        for (Reference.Term t : s.conclusion.prefix()) {
            collect(t.type, all);
        }
        int found = 0;
        for (Reference.Type t : all) {
            Set<Integer> variables = new HashSet<>();
            t.variables(variables);
            found += variables.contains(0) ? 1 : 0;
        }
        return found;
    }

    private static void collect(Reference.Type t, Set<Reference.Type> into) {
        if (into.add(t)) {
            for (Reference.Type part : t.parts) {
                collect(part, into);
            }
        }
    }

    /** Makes new types until there are so many. */
    private void fillTo(int count) {
        r.does("before it");
        int[] gains = new int[plain.sequents.size()];
        for (int a = 0; a < gains.length; a++) {
            gains[a] = plain.sequents.get(a).hypotheses.isEmpty() ? typesWithA(plain.sequents.get(a)) : 0;
        }
        int left = count - plain.differentTypes();
        while (left > 0) {
            int best = best(gains, left);
            int variable = r.typeVariable(fresh++);
            if (best >= 0) {
                r.step(19, best, 1, 0, variable);
            }
            left -= best >= 0 ? gains[best] : 1;
        }
        r.does("filled to " + count);
        Checks.same("filled to", plain.differentTypes(), count);
    }

    /** The sequent with most to gain, but no more than is left; -1 if it is not worth a step. */
    private static int best(int[] gains, int left) {
        int best = -1;
        for (int a = 0; a < gains.length; a++) {
            if (gains[a] > 4 && gains[a] <= left && (best < 0 || gains[a] > gains[best])) {
                best = a;
            }
        }
        return best;
    }

    /** The entry needs so many new types: it will do where they are left, and not where one is missing. */
    private static void edge(String what, int needs, Attempt attempt) {
        DifferentTypesTest fits = new DifferentTypesTest(what + ", which needs " + needs + " types");
        fits.begin(ROUNDS);
        int[] entry = attempt.of(fits.r);
        fits.fillTo(MOST - needs);
        if (entry[0] < 10) {
            fits.r.say(entry);
        } else {
            fits.r.step(entry);
        }
        fits.r.does("just as many are left");
        fits.r.fails("8001", 0, 99999999);
        DifferentTypesTest not = new DifferentTypesTest(what + ", which lacks one of " + needs + " types");
        not.begin(ROUNDS);
        int[] again = attempt.of(not.r);
        not.fillTo(MOST - needs + 1);
        not.r.fails("one is missing", again);
        for (int left = needs - 1; left > 0; left--) {
            not.r.type(0, 99999999 - left);
        }
        not.r.does("what it tried counts not");
        not.r.fails("8001", 0, 99999999);
    }

    private static int[] entry(int... numbers) {
        return numbers;
    }

    private static void typesThatEntriesMake() {
        edge("a type variable", 1, r -> entry(0, 5));
        edge("a type", 1, r -> entry(1, 2, r.typeVariable(5), r.typeVariable(6)));
        edge("an abstraction", 1, r -> entry(5, r.typeVariable(5), r.free(0, r.typeVariable(6))));
    }

    /** Equality of a type needs two: its own, and that of what it answers. */
    private static void typesThatStepsMake() {
        edge("step 10", 2, r -> entry(10, r.free(0, r.typeVariable(5))));
        edge("step 12", 2, r -> entry(12,
            r.step(10, r.free(0, r.function(r.typeVariable(5), r.typeVariable(6)))),
            r.step(10, r.free(0, r.typeVariable(5)))));
        edge("step 13", 3, r -> entry(13,
            r.free(0, r.typeVariable(5)), r.step(10, r.free(0, r.typeVariable(6)))));
        edge("step 14", 2, r -> entry(14, r.apply(
            r.lambda(r.typeVariable(5), r.free(0, r.typeVariable(6))), r.free(0, r.typeVariable(5)))));
        edge("step 19", 2, r -> entry(19,
            r.step(10, r.free(0, r.typeVariable(5))), 1, 5, r.typeVariable(6)));
        // And what they take: 'f to 'f as well.
        edge("step 19 with two places", 3, r -> entry(19,
            r.step(10, r.free(0, r.function(r.typeVariable(5), r.typeVariable(5)))), 1, 5, r.typeVariable(6)));
    }

    private static void typesThatDefinitionsMake() {
        edge("step 20", 2, r -> entry(20, r.identity(r.typeVariable(5))));
        // T, x's type to T, T to x's type, and equality of T.
        edge("step 21", 5, r -> entry(21, r.step(10, r.identity(r.typeVariable(5)))));
    }

    private static void typesThatAxiomsMake() {
        // 'b, 'a to 'b, and equality of that.
        edge("axiom 0", 4, r -> entry(22, 0));
        // Of f in p /\ q: that to truths, and equality of it; equality of truths to truths.
        edge("axiom 1", 5, r -> entry(22, 1));
        // The same five; things to things, that to truths, and choice of it; equality of things, which
        // answers things to truths; equality of that, and choice of it.
        edge("axiom 2", 13, r -> entry(22, 2));
    }

    private static void whatMakesNone() {
        DifferentTypesTest full = new DifferentTypesTest("8000 types, and what makes none");
        full.begin(ROUNDS);
        Run r = full.r;
        int a = r.typeVariable(0);
        int x = r.free(0, a);
        r.step(10, x);
        full.fillTo(MOST);
        r.type(0, 0);
        r.type(1, 1);
        r.function(a, r.function(a, r.truths()));
        r.function(r.function(a, r.truths()), a);
        r.equality(a);
        int p = r.truth(7);
        r.bound(0, a);
        int assumed = r.step(15, p);
        r.step(10, x);
        r.step(17, assumed, r.step(10, x));
        r.step(18, assumed, p, r.equal(a, x, x));
        r.step(19, assumed, 1, 0, r.things());
        r.does("none of these needs a new type");
        r.fails("8001, a type", 1, 2, r.things(), r.things());
        r.fails("8001, a type variable", 0, 7);
    }

    private void behindCutOfEntries() {
        begin(ROUNDS);
        fillTo(MOST - 3);
        r.step(10, r.free(0, r.typeVariable(0)));
        int step = r.step(15, r.truth(0));
        r.type(0, 50);
        r.type(0, 51);
        r.type(0, 52);
        r.fails("8001", 0, 53);
        r.cuts("three type variables go", step + 1);
        r.type(0, 61);
        r.type(0, 62);
        r.type(0, 63);
        r.fails("8001 once more", 0, 50);
        r.does("8000 once more");
    }

    private void behindCutOfASequent() {
        begin(ROUNDS);
        int x = r.free(0, r.typeVariable(5));
        fillTo(MOST - 2);
        int before = r.step(15, r.truth(0));
        int equation = r.step(10, x);
        r.fails("8001", 0, 50);
        r.cuts("equality of x goes", equation);
        r.type(0, 50);
        r.fails("one is left, and equality needs two", 10, x);
        r.type(0, 51);
        r.fails("8001 once more", 0, 52);
        r.cuts("these two go again", before + 1);
        r.step(10, x);
        r.fails("8001 again", 0, 52);
    }

    /** What is there at first does not go. */
    private void behindCutOfAll() {
        begin(ROUNDS);
        Checks.that("thousands of types", plain.differentTypes() > 5000);
        r.cuts("all go", 0);
        Checks.same("equality's and choice's, and what they take", plain.differentTypes(), 5);
        begin(ROUNDS);
        fillTo(MOST);
        r.fails("8001", 0, 50);
    }

    /** The types of the sequent that is kept count, the others do not. */
    private void behindKeep() {
        begin(ROUNDS);
        r.keeps("the last alone", plain.sequents.size() - 1, 0);
        Checks.that("thousands of types are kept", plain.differentTypes() > 2000);
        begin(ROUNDS - 3);
        fillTo(MOST);
        r.fails("8001", 0, 50);
    }
}
