import java.util.ArrayList;
import java.util.List;
import java.util.Random;

/** Asks a TraceJudge and tells its exceptions as numbers; compares its sequents with the plain Reference's. */
final class Compare {
    /** No call answers this. */
    static final int THROWN = Integer.MIN_VALUE;

    private Compare() {
    }

    static int hypotheses(TraceJudge judge, int a) {
        try {
            return judge.hypotheses(a);
        } catch (IndexOutOfBoundsException e) {
            return isOwn(e) ? THROWN : THROWN + 1;
        }
    }

    static int symbol(TraceJudge judge, int a, int i, int k) {
        try {
            return judge.symbol(a, i, k);
        } catch (IndexOutOfBoundsException e) {
            return isOwn(e) ? THROWN : THROWN + 1;
        }
    }

    static int typeSymbol(TraceJudge judge, int a, int i, int k, int place) {
        try {
            return judge.typeSymbol(a, i, k, place);
        } catch (IndexOutOfBoundsException e) {
            return isOwn(e) ? THROWN : THROWN + 1;
        }
    }

    /** What the machine throws is of a class below the one that the face names. */
    private static boolean isOwn(RuntimeException e) {
        return e.getClass() == IndexOutOfBoundsException.class;
    }

    /** 0, or 3 for IllegalArgumentException. */
    static int cut(TraceJudge judge, int n) {
        try {
            judge.cut(n);
            return 0;
        } catch (IllegalArgumentException e) {
            return 3;
        }
    }

    /** 0, or 1, 2, 3 for the exceptions of the face in their order. */
    static int keep(TraceJudge judge, int a, int n) {
        try {
            judge.keep(a, n);
            return 0;
        } catch (IndexOutOfBoundsException e) {
            return isOwn(e) ? 1 : 4;
        } catch (IllegalStateException e) {
            return 2;
        } catch (IllegalArgumentException e) {
            return 3;
        }
    }

    static void sequent(TraceJudge judge, int a, Reference.Sequent due, Random random) {
        Checks.same("hypotheses of " + a, hypotheses(judge, a), due.hypotheses.size());
        int i = 0;
        for (Reference.Term h : due.hypotheses) {
            row(judge, a, i, h, random);
            i++;
        }
        row(judge, a, -1, due.conclusion, random);
    }

    private static void row(TraceJudge judge, int a, int i, Reference.Term due, Random random) {
        List<Reference.Term> prefix = due.prefix();
        for (int k = 0; k < prefix.size() && Checks.wrong() == 0; k++) {
            String where = a + ", " + i + ", " + k;
            Checks.same("symbol " + where, symbol(judge, a, i, k), Reference.symbolOf(prefix.get(k)));
            // Of big terms, some types are enough.
            if (prefix.size() < 60 || random.nextInt(prefix.size()) < 40) {
                type(judge, a, i, k, prefix.get(k).type);
            }
        }
        Checks.same("symbol behind the last", symbol(judge, a, i, prefix.size()), THROWN);
    }

    private static void type(TraceJudge judge, int a, int i, int k, Reference.Type due) {
        List<Integer> heads = new ArrayList<>();
        due.write(heads);
        String where = a + ", " + i + ", " + k + ", ";
        for (int place = 0; place < heads.size(); place++) {
            Checks.same("type symbol " + where + place, typeSymbol(judge, a, i, k, place), heads.get(place));
        }
        Checks.same("type symbol " + where + heads.size(), typeSymbol(judge, a, i, k, heads.size()), THROWN);
        Checks.same("type symbol " + where + "-1", typeSymbol(judge, a, i, k, -1), THROWN);
    }
}
