import java.util.ArrayList;
import java.util.List;
import java.util.Random;

/**
 * Random runs, most of their entries such as will do, compared call by call with the plain Reference;
 * they go on beyond 512 calls.
 */
public final class RandomRunsTest {
    private static final int RUNS = 400;
    private static final int CALLS = 250;

    private final Random random;
    private final Reference plain = new Reference();
    private final TraceJudge judge = new TraceJudge();
    private final List<Integer> entry = new ArrayList<>();
    /** A run likes big terms, or types put in, or hypotheses, or nothing of these. */
    private final int liking;
    private int accepted = 0;

    private RandomRunsTest(long seed) {
        random = new Random(seed);
        liking = (int) (seed % 4);
    }

    public static void main(String[] args) {
        int runs = args.length > 0 ? Integer.parseInt(args[0]) : RUNS;
        int calls = args.length > 1 ? Integer.parseInt(args[1]) : CALLS;
        int first = args.length > 2 ? Integer.parseInt(args[2]) : 0;
        int steps = 0;
        for (int seed = first; seed < first + runs && Checks.wrong() == 0; seed++) {
            RandomRunsTest run = new RandomRunsTest(seed);
            run.begin();
            for (int i = 0; i < calls && Checks.wrong() == 0; i++) {
                run.turn();
            }
            run.compareAll();
            steps += run.accepted;
            if (Checks.wrong() > 0) {
                System.out.println("in the random run " + seed);
            }
        }
        Checks.that("random runs accept steps, too", steps > runs * calls / 10);
        Checks.end();
    }

    private int below(int n) {
        return n <= 0 ? 0 : random.nextInt(n);
    }

    private void put(int... numbers) {
        for (int n : numbers) {
            entry.add(n);
        }
    }

    private void begin() {
        put(1, 0, 1, 1, 0, 0, 0, 1, 1, 2, 0, 0, 1, 2, 1, 0, 1, 2, 2, 3, 1, 2, 2, 0);
        put(2, 0, 0, 2, 1, 0, 2, 0, 1, 2, 0, 2, 2, 1, 2, 6, 0, 0, 6, 0, 1, 6, 1, 0, 6, 0, 2);
        judgeEntry();
        equalities();
    }

    /** Equality and choice of some types that there are. */
    private void equalities() {
        int n = plain.types.size();
        for (int t = 0; t < 4 && t < n; t++) {
            put(1, 2, t, 0, 1, 2, t, plain.types.size(), 3, 0, plain.types.size() + 1);
            judgeEntry();
        }
    }

    private void turn() {
        if (plain.types.isEmpty()) {
            begin();
        }
        int what = below(100);
        if (what < 2) {
            cut();
        } else if (what < 4) {
            keep();
        } else if (what < 6) {
            spoil();
        } else if (what < 7) {
            put(random.nextInt(30) - 3, random.nextInt(), below(5), below(200000000));
            judgeEntry();
        } else if (what < 40) {
            makeEntry();
            judgeEntry();
        } else {
            makeStep();
            judgeEntry();
        }
        if (below(10) == 0) {
            askAmiss();
        }
    }

    /** An entry that was made to do gets another number, or ends early. */
    private void spoil() {
        makeStep();
        if (entry.isEmpty()) {
            return;
        }
        if (below(2) == 0) {
            entry.remove(entry.size() - 1);
        } else {
            entry.set(below(entry.size()), below(12) - 2);
        }
        judgeEntry();
    }

    private void judgeEntry() {
        for (int n : entry) {
            Checks.same("say " + n, judge.say(n) ? 1 : 0, plain.say(n) ? 1 : 0);
        }
        int before = plain.sequents.size();
        int due = plain.judge();
        accepted += due;
        Checks.same("judge of " + entry, judge.judge(), due);
        Checks.same("fault of " + entry, judge.fault(), plain.fault);
        Checks.same("size behind " + entry, judge.size(), plain.sequents.size());
        for (int a = before; a < plain.sequents.size() && Checks.wrong() == 0; a++) {
            Compare.sequent(judge, a, plain.sequents.get(a), random);
        }
        entry.clear();
    }

    private void compareAll() {
        for (int a = 0; a < plain.sequents.size() && Checks.wrong() == 0; a++) {
            Compare.sequent(judge, a, plain.sequents.get(a), random);
        }
    }

    private void cut() {
        int n = below(4) == 0 ? below(plain.sequents.size() + 4) - 2 : plain.sequents.size() - below(6);
        Checks.same("cut " + n, Compare.cut(judge, n), plain.cut(n));
        Checks.same("size behind cut", judge.size(), plain.sequents.size());
    }

    private void keep() {
        int a = below(8) == 0 ? below(plain.sequents.size() + 4) - 2 : plain.sequents.size() - 1 - below(6);
        int n = a - below(6) + (below(6) == 0 ? 2 : 0);
        Checks.same("keep " + a + " " + n, Compare.keep(judge, a, n), plain.keep(a, n));
        Checks.same("size behind keep", judge.size(), plain.sequents.size());
        if (!plain.sequents.isEmpty()) {
            int last = plain.sequents.size() - 1;
            Compare.sequent(judge, last, plain.sequents.get(last), random);
        }
    }

    private void askAmiss() {
        int a = below(plain.sequents.size() + 3) - 1;
        boolean there = a >= 0 && a < plain.sequents.size();
        int due = there ? plain.sequents.get(a).hypotheses.size() : Compare.THROWN;
        Checks.same("hypotheses " + a, Compare.hypotheses(judge, a), due);
        int hypothesis = there && below(2) == 0 ? due : -2;
        Checks.same("symbol of no row", Compare.symbol(judge, a, hypothesis, 0), Compare.THROWN);
        Checks.same("symbol too low", Compare.symbol(judge, a, -1, -1), Compare.THROWN);
        int end = there ? plain.sequents.get(a).conclusion.symbols : 0;
        Checks.same("symbol too high", Compare.symbol(judge, a, -1, end), Compare.THROWN);
        Checks.same("type of no symbol", Compare.typeSymbol(judge, a, -1, end, 0), Compare.THROWN);
    }

    private int typeNumber() {
        int n = plain.types.size();
        return below(2) == 0 ? below(n) : n - 1 - below(Math.min(n, 8));
    }

    private int termNumber() {
        int n = plain.terms.size();
        if (liking == 0 && below(2) == 0) {
            return n - 1 - below(Math.min(n, 3));
        }
        return below(2) == 0 ? below(n) : n - 1 - below(Math.min(n, 12));
    }

    private int sequentNumber() {
        int n = plain.sequents.size();
        return below(2) == 0 ? below(n) : n - 1 - below(Math.min(n, 6));
    }

    private Reference.Term term(int n) {
        return n >= 0 && n < plain.terms.size() ? plain.terms.get(n) : null;
    }

    private Reference.Term conclusion(int n) {
        return n >= 0 && n < plain.sequents.size() ? plain.sequents.get(n).conclusion : null;
    }

    private void makeEntry() {
        switch (below(8)) {
            case 0: put(0, below(3) == 0 ? 99999990 + below(12) : below(4)); break;
            case 1: case 2: makeType(); break;
            case 3: put(2, below(3), typeNumber()); break;
            case 4: put(6, below(20) == 0 ? 110 + below(15) : below(3), typeNumber()); break;
            case 5: makeConstant(); break;
            case 6: makeAbstraction(); break;
            default: makeApplication();
        }
    }

    private void makeType() {
        int c = below(plain.constructors.size());
        put(1, c);
        for (int i = 0; i < plain.constructors.get(c); i++) {
            put(typeNumber());
        }
    }

    private void makeConstant() {
        int c = below(2) == 0 ? plain.constants.size() - 1 - below(Math.min(4, plain.constants.size()))
            : below(plain.constants.size());
        for (int tries = 0; tries < 20; tries++) {
            int t = typeNumber();
            if (t < plain.types.size() && t >= 0
                    && plain.constants.get(c).becomes(plain.types.get(t), new java.util.HashMap<>())) {
                put(3, c, t);
                return;
            }
        }
        put(3, c, typeNumber());
    }

    private void makeAbstraction() {
        int a = typeNumber();
        int b = termNumber();
        for (int tries = 0; tries < 10; tries++) {
            b = termNumber();
            if (term(b) != null && !term(b).isClosed(0)) {
                break;
            }
        }
        if (term(b) != null && below(4) > 0) {
            for (int t = 0; t < plain.types.size(); t++) {
                if (term(b).binds(0, plain.types.get(t))) {
                    a = t;
                }
            }
        }
        put(5, a, b);
    }

    private void makeApplication() {
        int f = termNumber();
        int x = termNumber();
        for (int tries = 0; tries < 60; tries++) {
            f = termNumber();
            x = termNumber();
            if (term(f) != null && term(x) != null && term(f).type.head == 2
                    && term(f).type.parts.get(0).equals(term(x).type)) {
                break;
            }
        }
        put(4, f, x);
    }

    private void makeStep() {
        switch (below(17)) {
            case 0: case 1: put(10, termNumber()); break;
            case 2: makePair(11); break;
            case 3: case 4: makePair(12); break;
            case 5: put(13, freeNumber(), equationNumber()); break;
            case 6: makeReduction(); break;
            case 7: case 8: put(15, truthNumber()); break;
            case 9: makePair(16); break;
            case 10: put(17, sequentNumber(), sequentNumber()); break;
            case 11: makePutting(); break;
            case 12: case 13: makeTypePutting(); break;
            case 14: put(20, termNumber()); break;
            case 15: makeNewConstructor(); break;
            default: put(22, below(10) == 0 ? below(6) - 1 : below(2));
        }
        if (liking == 1 && below(3) == 0) {
            entry.clear();
            makeTypePutting();
        }
        if (liking == 2 && below(4) == 0) {
            entry.clear();
            makeHypothesis();
        }
    }

    /** A new variable, that as hypothesis, and it joined to another sequent's: three entries at once. */
    private void makeHypothesis() {
        int truths = plain.types.indexOf(Reference.TRUTHS);
        int last = plain.sequents.size();
        int most = sequentNumber();
        for (int a = Math.max(0, last - 20); a < last; a++) {
            if (plain.sequents.get(a).hypotheses.size() > plain.sequents.get(most).hypotheses.size()) {
                most = a;
            }
        }
        put(2, below(90), truths, 15, plain.terms.size(), 17, last, most);
    }

    private int freeNumber() {
        for (int tries = 0; tries < 40; tries++) {
            int t = termNumber();
            if (term(t) != null && term(t).kind == Reference.Kind.FREE) {
                return t;
            }
        }
        return termNumber();
    }

    private int truthNumber() {
        for (int tries = 0; tries < 40; tries++) {
            int t = termNumber();
            if (term(t) != null && term(t).type.equals(Reference.TRUTHS)) {
                return t;
            }
        }
        return termNumber();
    }

    private int equationNumber() {
        for (int tries = 0; tries < 40; tries++) {
            int a = sequentNumber();
            if (conclusion(a) != null && conclusion(a).isEquation()) {
                return a;
            }
        }
        return sequentNumber();
    }

    private boolean fits(int kind, int a, int b) {
        if (conclusion(a) == null || conclusion(b) == null || !conclusion(a).isEquation()) {
            return false;
        }
        if (kind == 16) {
            return conclusion(a).leftSide().equals(conclusion(b));
        }
        if (!conclusion(b).isEquation()) {
            return false;
        }
        if (kind == 11) {
            return conclusion(a).rightSide().equals(conclusion(b).leftSide());
        }
        Reference.Type f = conclusion(a).leftSide().type;
        return f.head == 2 && f.parts.get(0).equals(conclusion(b).leftSide().type);
    }

    private void makePair(int kind) {
        int a = equationNumber();
        int b = equationNumber();
        for (int tries = 0; tries < 60 && !fits(kind, a, b); tries++) {
            a = sequentNumber();
            b = sequentNumber();
        }
        put(kind, a, b);
    }

    private void makeReduction() {
        for (int t = plain.terms.size() - 1; t >= 0; t--) {
            Reference.Term is = term(t);
            if (is.kind == Reference.Kind.APPLICATION && is.one.kind == Reference.Kind.ABSTRACTION
                    && below(4) == 0) {
                put(14, t);
                return;
            }
        }
        // There is none such as yet: one is made.
        for (int f = plain.terms.size() - 1; f >= 0; f--) {
            if (term(f).kind == Reference.Kind.ABSTRACTION && below(3) == 0) {
                int a = plain.types.indexOf(term(f).type.parts.get(0));
                put(2, below(3), a, 4, f, plain.terms.size(), 14, plain.terms.size() + 1);
                return;
            }
        }
        put(14, termNumber());
    }

    private void makePutting() {
        int v = freeNumber();
        int t = termNumber();
        for (int tries = 0; tries < 40; tries++) {
            t = termNumber();
            if (term(t) != null && term(v) != null && term(t).type.equals(term(v).type) && term(t).isClosed(0)) {
                break;
            }
        }
        put(18, sequentNumber(), v, t);
    }

    private void makeTypePutting() {
        int k = below(20) == 0 ? below(5) - 1 : 1 + below(2);
        put(19, sequentNumber(), k);
        int n = below(2);
        for (int i = 0; i < k; i++) {
            put(n + i, typeNumber());
        }
        if (k == 2 && below(10) == 0) {
            entry.set(5, entry.get(3));
        }
    }

    private void makeNewConstructor() {
        for (int a = plain.sequents.size() - 1; a >= 0; a--) {
            Reference.Sequent s = plain.sequents.get(a);
            if (s.hypotheses.isEmpty() && s.conclusion.kind == Reference.Kind.APPLICATION
                    && !s.conclusion.one.hasFree() && below(3) == 0) {
                put(21, a);
                return;
            }
        }
        put(21, sequentNumber());
    }
}
