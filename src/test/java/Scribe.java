/** Says entries to a TraceJudge of its own and checks what comes of them; keeps count of the numbers given. */
final class Scribe {
    final TraceJudge judge = new TraceJudge();
    private int types = 0;
    private int terms = 0;

    static int free(int n) {
        return 4 * n + 1;
    }

    static int constant(int c) {
        return 4 * c + 2;
    }

    void say(int... numbers) {
        for (int n : numbers) {
            Checks.that("say " + n, judge.say(n));
        }
    }

    /** The entries will do, and are so many steps. */
    void does(String what, int steps, int... numbers) {
        say(numbers);
        Checks.same(what + ": judge", judge.judge(), steps);
        Checks.same(what + ": fault", judge.fault(), -1);
    }

    /** One entry, which will not do. */
    void fails(String what, int... numbers) {
        int before = judge.size();
        say(numbers);
        Checks.same(what + ": judge", judge.judge(), 0);
        Checks.same(what + ": fault", judge.fault(), 0);
        Checks.same(what + ": size", judge.size(), before);
    }

    /** The entry of a type will do; its number. */
    int type(int... entry) {
        does("a type", 0, entry);
        types++;
        return types - 1;
    }

    int function(int from, int to) {
        return type(1, 2, from, to);
    }

    /** The entry of a term will do; its number. */
    int term(int... entry) {
        does("a term", 0, entry);
        terms++;
        return terms - 1;
    }

    /** A step will do; the number of its last sequent. */
    int step(int... entry) {
        does("step " + entry[0], 1, entry);
        return judge.size() - 1;
    }

    /** Equality of a type, as a term. */
    int equality(int a, int truths) {
        int halfway = function(a, truths);
        return term(3, 0, function(a, halfway));
    }

    /** A row, i = -1 the conclusion, has just these symbols. */
    void row(String what, int a, int i, int... symbols) {
        for (int k = 0; k < symbols.length; k++) {
            Checks.same(what + ": symbol " + k, Compare.symbol(judge, a, i, k), symbols[k]);
        }
        Checks.same(what + ": end", Compare.symbol(judge, a, i, symbols.length), Compare.THROWN);
    }

    void conclusion(String what, int a, int... symbols) {
        row(what, a, -1, symbols);
    }

    /** The type of a symbol of a conclusion has just these symbols. */
    void typeAt(String what, int a, int k, int... heads) {
        for (int place = 0; place < heads.length; place++) {
            Checks.same(what + ": type symbol " + place, Compare.typeSymbol(judge, a, -1, k, place), heads[place]);
        }
        Checks.same(what + ": end of the type",
            Compare.typeSymbol(judge, a, -1, k, heads.length), Compare.THROWN);
    }

    void hypotheses(String what, int a, int due) {
        Checks.same(what + ": hypotheses", Compare.hypotheses(judge, a), due);
    }
}
