import java.util.ArrayList;
import java.util.List;

/** Promise 3, step 22: the axioms, and no others. */
public final class AxiomsTest {
    private static final int[] TRUE = {-1, -1, 2, -2, 0, -2, 0};

    public static void main(String[] args) {
        Scribe s = new Scribe();
        Checks.same("axiom 0", s.step(22, 0), 0);
        Checks.same("axiom 1", s.step(22, 1), 1);
        Checks.same("axiom 2", s.step(22, 2), 2);
        s.fails("axiom 3", 22, 3);
        s.fails("axiom -1", 22, -1);
        for (int a = 0; a < 3; a++) {
            s.hypotheses("axiom " + a, a, 0);
        }
        extension(s);
        selection(s);
        infinity(s);
        asThePlainReferenceSays();
        Checks.end();
    }

    private static void extension(Scribe s) {
        s.conclusion("(\\x. f x) = f", 0, -1, -1, 2, -2, -1, 5, 0, 5);
        s.typeAt("\\x. f x", 0, 3, 2, -1, -2);
        s.typeAt("f x", 0, 4, -2);
        s.typeAt("f", 0, 5, 2, -1, -2);
        s.typeAt("x", 0, 6, -1);
        s.typeAt("equality", 0, 2, 2, 2, -1, -2, 2, 2, -1, -2, 0);
    }

    private static void selection(Scribe s) {
        int[] px = {-1, 5, 1};
        int[] chosen = {-1, 5, -1, 6, 5};
        int[] pair = {-2, -1, -1, 0};
        int[] start = {-1, -1, 2};
        s.conclusion("P x ==> P (choice P)", 1,
            joined(start, start, pair, px, chosen, pair, TRUE, TRUE, px));
        s.typeAt("the pair's f", 1, 9, 2, 0, 2, 0, 0);
        s.typeAt("P", 1, 11, 2, -1, 0);
        s.typeAt("x", 1, 12, -1);
        s.typeAt("choice P", 1, 15, -1);
        s.typeAt("choice", 1, 16, 2, 2, -1, 0, -1);
    }

    /** Its beginning, as far as the first implication's first side. */
    private static void infinity(Scribe s) {
        int[] begins = {-1, -2,
            -1, -1, 2, -2, -1, -1, 0,
            -1, -1, 2, -2,
            -1, -1, 2, -2,
            -1, -1, 2,
            -1, -1, 2, -2, -1, -1, 0,
            -1, -1, 2, -1, 16, 8, -1, 16, 4,
            -1, -1, 2, 8, 4,
            -2, -1, -1, 0};
        for (int k = 0; k < begins.length; k++) {
            Checks.same("axiom 2, symbol " + k, Compare.symbol(s.judge, 2, -1, k), begins[k]);
        }
        s.typeAt("axiom 2", 2, 0, 0);
        s.typeAt("its property", 2, 1, 2, 2, 1, 1, 0);
        s.typeAt("f", 2, 31, 2, 1, 1);
        s.typeAt("x", 2, 32, 1);
    }

    /** Each symbol and its type, asked of new objects that have few calls each. */
    private static void asThePlainReferenceSays() {
        Reference plain = new Reference();
        for (int k = 0; k < 3; k++) {
            plain.say(22);
            plain.say(k);
        }
        Checks.same("the reference", plain.judge(), 3);
        for (int k = 0; k < 3; k++) {
            List<Reference.Term> due = plain.sequents.get(k).conclusion.prefix();
            for (int at = 0; at < due.size(); at++) {
                Run r = new Run("axiom " + k);
                int a = r.step(22, k);
                r.symbolIs("as in the reference", a, -1, at, Reference.symbolOf(due.get(at)));
                List<Integer> heads = new ArrayList<>();
                due.get(at).type.write(heads);
                for (int place = 0; place < heads.size(); place++) {
                    r.typeSymbolIs("as in the reference", a, -1, at, place, heads.get(place));
                }
                r.noTypeSymbol("no more in its type", a, -1, at, heads.size());
                r.noSymbol("no more in it", a, -1, due.size());
            }
        }
    }

    private static int[] joined(int[]... rows) {
        int length = 0;
        for (int[] row : rows) {
            length += row.length;
        }
        int[] all = new int[length];
        int at = 0;
        for (int[] row : rows) {
            System.arraycopy(row, 0, all, at, row.length);
            at += row.length;
        }
        return all;
    }
}
