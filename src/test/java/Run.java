import java.util.ArrayList;
import java.util.HashMap;
import java.util.List;
import java.util.Map;

/**
 * A run of calls on a new object: at most 512, as many as the document promises to answer. Entries
 * are judged when an answer is asked for, and the types and terms that have names here are made only
 * once, so that a run gets far with its calls.
 */
final class Run {
    private static final int MOST_CALLS = 512;

    private final String name;
    private final TraceJudge judge = new TraceJudge();
    /** Has the same calls, so that it can be asked what no call tells; null if there is no need. */
    private final Reference plain;
    private int calls = 0;
    private int types = 0;
    private int terms = 0;
    private int sequents = 0;
    /** What was said and not yet judged: the numbers, and the steps among them. */
    private int waiting = 0;
    private int steps = 0;
    /** How many types and terms there were behind each sequent. */
    private final List<int[]> then = new ArrayList<>();
    private final Map<List<Integer>, Integer> known = new HashMap<>();

    Run(String name) {
        this(name, null);
    }

    Run(String name, Reference plain) {
        this.name = name;
        this.plain = plain;
    }

    private void called() {
        calls++;
        Checks.that(name + ": call " + calls + " is one of 512", calls <= MOST_CALLS);
    }

    private void same(String what, long got, long due) {
        Checks.same(name + ": " + what, got, due);
    }

    /** The calls as they are. */

    void say(int... numbers) {
        for (int n : numbers) {
            called();
            Checks.that(name + ": say " + n, judge.say(n));
            waiting++;
            if (plain != null) {
                plain.say(n);
            }
        }
    }

    void judges(String what, int due) {
        called();
        same(what + ": judge", judge.judge(), due);
        waiting = 0;
        steps = 0;
        if (plain != null) {
            same(what + ": judge of the plain reference", plain.judge(), due);
        }
    }

    void faultIs(String what, int due) {
        called();
        same(what + ": fault", judge.fault(), due);
        if (plain != null) {
            same(what + ": fault of the plain reference", plain.fault, due);
        }
    }

    void sizeIs(String what, int due) {
        called();
        same(what + ": size", judge.size(), due);
    }

    private int symbol(int a, int i, int k) {
        called();
        return Compare.symbol(judge, a, i, k);
    }

    private int typeSymbol(int a, int i, int k, int place) {
        called();
        return Compare.typeSymbol(judge, a, i, k, place);
    }

    /** Entries of which all, or all but the last, will do. */

    int type(int... entry) {
        say(entry);
        types++;
        return types - 1;
    }

    int term(int... entry) {
        say(entry);
        terms++;
        return terms - 1;
    }

    /** The number of the step's last sequent. */
    int step(int... entry) {
        say(entry);
        steps++;
        for (int made = entry[0] == 21 ? 2 : 1; made > 0; made--) {
            sequents++;
            then.add(new int[] {types, terms});
        }
        return sequents - 1;
    }

    /** What waits will do. */
    void does(String what) {
        if (waiting > 0) {
            judges(what, steps);
            faultIs(what, -1);
        }
    }

    /** What waits will do, but this entry will not, and leaves nothing behind. */
    void fails(String what, int... entry) {
        int before = waiting;
        say(entry);
        judges(what, steps);
        faultIs(what, before);
        sizeIs(what, sequents);
    }

    /** Questions, behind all that waits. */

    void hypothesesAre(String what, int a, int due) {
        does(what);
        called();
        same(what + ": hypotheses of " + a, Compare.hypotheses(judge, a), due);
    }

    void symbolIs(String what, int a, int i, int k, int due) {
        does(what);
        same(what + ": symbol " + a + ", " + i + ", " + k, symbol(a, i, k), due);
    }

    void noSymbol(String what, int a, int i, int k) {
        symbolIs(what, a, i, k, Compare.THROWN);
    }

    void typeSymbolIs(String what, int a, int i, int k, int place, int due) {
        does(what);
        same(what + ": type symbol " + a + ", " + i + ", " + k + ", " + place, typeSymbol(a, i, k, place), due);
    }

    void noTypeSymbol(String what, int a, int i, int k, int place) {
        typeSymbolIs(what, a, i, k, place, Compare.THROWN);
    }

    /** A row has just these symbols; i is -1 for the conclusion. */
    void rowIs(String what, int a, int i, int... symbols) {
        for (int k = 0; k < symbols.length; k++) {
            symbolIs(what, a, i, k, symbols[k]);
        }
        noSymbol(what, a, i, symbols.length);
    }

    void conclusionIs(String what, int a, int... symbols) {
        rowIs(what, a, -1, symbols);
    }

    /** The type of a symbol of a conclusion has just these symbols. */
    void typeIs(String what, int a, int k, int... heads) {
        for (int place = 0; place < heads.length; place++) {
            typeSymbolIs(what, a, -1, k, place, heads[place]);
        }
        noTypeSymbol(what, a, -1, k, heads.length);
    }

    /** A row has so many symbols. */
    void lengthIs(String what, int a, int i, int due) {
        does(what);
        Checks.that(name + ": " + what + ": symbol " + (due - 1), symbol(a, i, due - 1) != Compare.THROWN);
        noSymbol(what, a, i, due);
    }

    /** The type of a symbol has so many symbols. */
    void typeLengthIs(String what, int a, int i, int k, int due) {
        does(what);
        Checks.that(name + ": " + what + ": type symbol " + (due - 1),
            typeSymbol(a, i, k, due - 1) != Compare.THROWN);
        noTypeSymbol(what, a, i, k, due);
    }

    void cuts(String what, int n) {
        does(what);
        called();
        same(what + ": cut " + n, Compare.cut(judge, n), 0);
        if (plain != null) {
            plain.cut(n);
        }
        goBackTo(n);
    }

    void cutThrows(String what, int n) {
        does(what);
        called();
        same(what + ": cut " + n + " throws (3 IllegalArgumentException)", Compare.cut(judge, n), 3);
        sizeIs(what, sequents);
    }

    void keeps(String what, int a, int n) {
        does(what);
        called();
        same(what + ": keep " + a + ", " + n, Compare.keep(judge, a, n), 0);
        if (plain != null) {
            plain.keep(a, n);
        }
        goBackTo(n);
        sequents++;
        then.add(new int[] {types, terms});
    }

    /** 1 IndexOutOfBoundsException, 2 IllegalStateException, 3 IllegalArgumentException. */
    void keepThrows(String what, int a, int n, int due) {
        does(what);
        called();
        same(what + ": keep " + a + ", " + n + " throws (1 index, 2 state, 3 argument)",
            Compare.keep(judge, a, n), due);
        sizeIs(what, sequents);
    }

    private void goBackTo(int n) {
        sequents = n;
        while (then.size() > n) {
            then.remove(then.size() - 1);
        }
        types = n == 0 ? 0 : then.get(n - 1)[0];
        terms = n == 0 ? 0 : then.get(n - 1)[1];
        known.entrySet().removeIf(e -> e.getValue() >= (isType(e.getKey()) ? types : terms));
    }

    /** Types and terms by their names: said only if they are not there. */

    private static boolean isType(List<Integer> entry) {
        return entry.get(0) < 2;
    }

    private int once(int... entry) {
        List<Integer> key = new ArrayList<>();
        for (int n : entry) {
            key.add(n);
        }
        Integer there = known.get(key);
        if (there != null) {
            return there;
        }
        int made = isType(key) ? type(entry) : term(entry);
        known.put(key, made);
        return made;
    }

    int typeVariable(int n) {
        return once(0, n);
    }

    int truths() {
        return once(1, 0);
    }

    int things() {
        return once(1, 1);
    }

    int function(int from, int to) {
        return once(1, 2, from, to);
    }

    int free(int n, int a) {
        return once(2, n, a);
    }

    int constant(int c, int a) {
        return once(3, c, a);
    }

    int apply(int f, int x) {
        return once(4, f, x);
    }

    int lambda(int a, int body) {
        return once(5, a, body);
    }

    int bound(int i, int a) {
        return once(6, i, a);
    }

    int equality(int a) {
        return constant(0, function(a, function(a, truths())));
    }

    int equal(int a, int l, int r) {
        return apply(apply(equality(a), l), r);
    }

    int identity(int a) {
        return lambda(a, bound(0, a));
    }

    /** A free variable of truths. */
    int truth(int n) {
        return free(n, truths());
    }

    /** Makes constructor 3, which takes one type: of x = x, x the identity. */
    void makeConstructor3() {
        step(21, step(10, identity(typeVariable(0))));
    }

    /** A type of so many symbols, as low as can be; even numbers need constructor 3. */
    int typeOf(int symbols) {
        if (symbols == 1) {
            return truths();
        }
        if (symbols % 2 == 0) {
            return once(1, 3, typeOf(symbols - 1));
        }
        int half = (symbols - 1) / 2;
        int first = half % 2 == 1 ? half : half - 1;
        return function(typeOf(first), typeOf(symbols - 1 - first));
    }

    /** Truths to (truths to ..), of that height. */
    int typeHigh(int height) {
        int t = truths();
        for (int h = 2; h <= height; h++) {
            t = function(truths(), t);
        }
        return t;
    }

    /** Free variables 0 of truths, of truths to truths, and of truths to (truths to truths). */
    int[] freeLeaves() {
        int one = function(truths(), truths());
        return new int[] {free(0, truths()), free(0, one), free(0, function(truths(), one))};
    }

    /** Constants that steps 20 make, of the same types: c, of c = (i = i), the identity, and x of x and y. */
    int[] constantLeaves() {
        int truths = truths();
        int one = function(truths, truths);
        int two = function(truths, one);
        int identity = identity(truths);
        step(20, equal(one, identity, identity));
        step(20, identity);
        step(20, lambda(truths, lambda(truths, bound(1, truths))));
        return new int[] {constant(2, truths), constant(3, one), constant(4, two)};
    }

    /** A term of truths with so many symbols (not 2), as low as can be, of such leaves. */
    int termOf(int[] leaves, int symbols) {
        if (symbols == 1) {
            return leaves[0];
        }
        if (symbols == 3) {
            return apply(leaves[1], leaves[0]);
        }
        if (symbols % 2 == 0) {
            return apply(lambda(truths(), termOf(leaves, symbols - 3)), leaves[0]);
        }
        int half = (symbols - 3) / 2;
        int first = half % 2 == 1 ? half : half - 1;
        int one = termOf(leaves, first);
        int two = termOf(leaves, symbols - 3 - first);
        return apply(apply(leaves[2], one), two);
    }

    /** f (f (.. p)), of that height. */
    int termHigh(int[] leaves, int height) {
        int t = leaves[0];
        for (int h = 2; h <= height; h++) {
            t = apply(leaves[1], t);
        }
        return t;
    }

    /** Of p and a sequent without hypotheses: what that says, with p as hypothesis. */
    int under(int p, int a) {
        int assumed = step(15, p);
        return step(16, step(17, assumed, a), assumed);
    }

    /** Of s = t, terms of truths: t = s. The sequent, and s as a term. */
    int turned(int a, int s) {
        int same = step(10, s);
        int both = step(12, step(12, step(10, equality(truths())), a), same);
        return step(16, both, same);
    }
}
