/** Promise 3, the steps 10 to 19: what each makes, and what will not do. */
public final class StepsTest {
    private static final int P = Scribe.free(0);
    private static final int Q = Scribe.free(1);
    private static final int R = Scribe.free(2);

    public static void main(String[] args) {
        reflexive();
        transitive();
        congruent();
        abstracted();
        abstractedBelowBinders();
        reduced();
        assumed();
        replaced();
        equivalent();
        termPutIn();
        termPutInMakesAlike();
        typesPutIn();
        typesPutInMakeAlike();
        hypothesesAreJoinedInOrder();
        Checks.end();
    }

    /** Types truths and things; terms 0, 1, 2: free variables 0, 1, 2 of truths; 3: equality of truths. */
    private static Scribe withTruths() {
        Scribe s = new Scribe();
        s.type(1, 0);
        s.type(1, 1);
        s.term(2, 0, 0);
        s.term(2, 1, 0);
        s.term(2, 2, 0);
        s.equality(0, 0);
        return s;
    }

    private static int equal(Scribe s, int l, int r) {
        return s.term(4, s.term(4, 3, l), r);
    }

    private static void reflexive() {
        Scribe s = withTruths();
        int a = s.step(10, 0);
        s.conclusion("p = p", a, -1, -1, 2, P, P);
        s.hypotheses("p = p", a, 0);
        s.typeAt("equality of truths", a, 2, 2, 0, 2, 0, 0);
        s.fails("of no term", 10, 99);
        s.fails("of term -1", 10, -1);
        s.fails("of a term that is not closed", 10, s.term(6, 0, 0));
    }

    private static void transitive() {
        Scribe s = withTruths();
        int pq = s.step(15, equal(s, 0, 1));
        int qr = s.step(15, equal(s, 1, 2));
        int pr = s.step(11, pq, qr);
        s.conclusion("p = r", pr, -1, -1, 2, P, R);
        s.hypotheses("p = r", pr, 2);
        s.row("p = q first", pr, 0, -1, -1, 2, P, Q);
        s.row("then q = r", pr, 1, -1, -1, 2, Q, R);
        s.fails("q = r and p = q", 11, qr, pq);
        s.fails("p = q and p = q", 11, pq, pq);
        int p = s.step(15, 0);
        s.fails("an equation and none", 11, pq, p);
        s.fails("none and an equation", 11, p, pq);
        s.fails("no sequent first", 11, 99, pq);
        s.fails("no sequent second", 11, pq, -1);
        int things = s.term(2, 1, 1);
        int f = s.step(10, things);
        s.fails("q of truths and q of things", 11, pq, f);
    }

    private static void congruent() {
        Scribe s = withTruths();
        int f = s.term(2, 7, s.function(0, 1));
        int g = s.term(2, 8, 4);
        int type = 4;
        int equality = s.equality(type, 0);
        int fg = s.step(15, s.term(4, s.term(4, equality, f), g));
        int pq = s.step(15, equal(s, 0, 1));
        int both = s.step(12, fg, pq);
        s.conclusion("f p = g q", both, -1, -1, 2, -1, Scribe.free(7), P, -1, Scribe.free(8), Q);
        s.typeAt("of things", both, 3, 1);
        s.typeAt("equality of things", both, 2, 2, 1, 2, 1, 0);
        s.hypotheses("f p = g q", both, 2);
        s.row("f = g first", both, 0, -1, -1, 2, Scribe.free(7), Scribe.free(8));
        s.fails("x = y and f = g", 12, pq, fg);
        s.fails("functions of another type", 12, fg, s.step(10, s.term(2, 0, 1)));
        s.fails("no equation", 12, fg, s.step(15, 0));
        s.fails("no sequent", 12, fg, 99);
        s.fails("no sequent first", 12, -1, pq);
    }

    private static void abstracted() {
        Scribe s = withTruths();
        int pq = s.step(15, equal(s, 0, 1));
        s.fails("p is in the hypothesis", 13, 0, pq);
        int free = s.step(13, 2, pq);
        s.conclusion("\\r. p = \\r. q", free, -1, -1, 2, -2, P, -2, Q);
        s.hypotheses("\\r. p = \\r. q", free, 1);
        s.typeAt("its type", free, 3, 2, 0, 0);
        int other = s.term(2, 0, 1);
        int over = s.step(13, other, pq);
        s.conclusion("a variable of another type is another one", over, -1, -1, 2, -2, P, -2, Q);
        s.typeAt("over things", over, 3, 2, 1, 0);
        int pp = s.step(10, 0);
        int bound = s.step(13, 0, pp);
        s.conclusion("\\p. p = \\p. p", bound, -1, -1, 2, -2, 0, -2, 0);
        s.fails("no free variable", 13, 3, pp);
        s.fails("no term", 13, 99, pp);
        s.fails("term -1", 13, -1, pp);
        s.fails("no sequent", 13, 0, 99);
        s.fails("no equation", 13, 2, s.step(15, 0));
        s.fails("a bound variable", 13, s.term(6, 0, 0), pp);
    }

    private static void abstractedBelowBinders() {
        Scribe s = withTruths();
        int pqBelow = s.term(5, 1, s.term(5, 0, s.term(4, s.term(4, 3, 0), s.term(6, 0, 0))));
        int a = s.step(10, pqBelow);
        int b = s.step(13, 0, a);
        s.conclusion("\\p. \\x. \\q. p = q", b, -1, -1, 2,
            -2, -2, -2, -1, -1, 2, 8, 0, -2, -2, -2, -1, -1, 2, 8, 0);
        int f = s.term(2, 9, s.function(s.function(0, 0), s.function(0, 0)));
        int identity = s.term(5, 0, s.term(6, 0, 0));
        int fip = s.term(4, s.term(4, f, identity), 0);
        int c = s.step(13, 0, s.step(10, fip));
        s.conclusion("behind an abstraction that has ended", c, -1, -1, 2,
            -2, -1, -1, Scribe.free(9), -2, 0, 0, -2, -1, -1, Scribe.free(9), -2, 0, 0);
    }

    private static void reduced() {
        Scribe s = withTruths();
        int body = s.term(5, 0, s.term(4, s.term(4, 3, s.term(6, 1, 0)), s.term(6, 0, 0)));
        int f = s.term(5, 0, body);
        int t = s.term(4, f, 0);
        int a = s.step(14, t);
        s.conclusion("(\\x. \\y. x = y) p = \\y. p = y", a, -1, -1, 2,
            -1, -2, -2, -1, -1, 2, 4, 0, P, -2, -1, -1, 2, P, 0);
        s.hypotheses("it", a, 0);
        s.typeAt("its type", a, 3, 2, 0, 0);
        s.fails("an abstraction alone", 14, f);
        s.fails("a variable alone", 14, 0);
        s.fails("no term", 14, 99);
        s.fails("applied to what is no variable", 14, s.term(4, s.term(5, 0, s.term(6, 0, 0)), equal(s, 0, 0)));
        s.fails("an application of no abstraction", 14, s.term(4, 3, 0));
        s.fails("not closed", 14, s.term(4, s.term(5, 0, s.term(6, 1, 0)), 0));
        s.fails("applied to a bound variable", 14, s.term(4, f, s.term(6, 0, 0)));
        int constantly = s.term(4, s.term(5, 0, 1), 0);
        int b = s.step(14, constantly);
        s.conclusion("(\\x. q) p = q", b, -1, -1, 2, -1, -2, Q, P, Q);
    }

    private static void assumed() {
        Scribe s = withTruths();
        int a = s.step(15, 0);
        s.conclusion("p", a, P);
        s.hypotheses("p", a, 1);
        s.row("p, as hypothesis", a, 0, P);
        s.fails("not of truths", 15, s.term(2, 0, 1));
        s.fails("not closed", 15, s.term(6, 0, 0));
        s.fails("no term", 15, 99);
        s.fails("term -1", 15, -1);
    }

    private static void replaced() {
        Scribe s = withTruths();
        int pq = s.step(15, equal(s, 0, 1));
        int p = s.step(15, 0);
        int q = s.step(16, pq, p);
        s.conclusion("q", q, Q);
        s.hypotheses("q", q, 2);
        s.row("p = q first", q, 0, -1, -1, 2, P, Q);
        s.row("then p", q, 1, P);
        s.fails("p = q and q", 16, pq, q);
        s.fails("p and p = q", 16, p, pq);
        s.fails("no sequent", 16, pq, 99);
        s.fails("no sequent first", 16, 99, p);
    }

    private static void equivalent() {
        Scribe s = withTruths();
        int pq = s.step(15, equal(s, 0, 1));
        int q = s.step(16, pq, s.step(15, 0));
        int qq = s.step(15, 1);
        int first = s.step(17, q, qq);
        s.conclusion("q = q", first, -1, -1, 2, Q, Q);
        s.hypotheses("the second one's hypothesis is the first one's conclusion", first, 2);
        int second = s.step(17, q, s.step(15, 0));
        s.conclusion("q = p", second, -1, -1, 2, Q, P);
        s.hypotheses("p goes from the first one's, and comes with the second one's", second, 2);
        s.row("p = q stays", second, 0, -1, -1, 2, P, Q);
        s.row("p is the second one's", second, 1, P);
        int both = s.step(17, s.step(15, 0), s.step(15, 0));
        s.hypotheses("p and p: each goes", both, 0);
        s.fails("no sequent", 17, 0, 99);
        s.fails("no sequent first", 17, 99, 0);
        s.fails("sequent -1", 17, -1, 0);
    }

    private static void termPutIn() {
        Scribe s = withTruths();
        int pq = s.step(15, equal(s, 0, 1));
        int a = s.step(18, pq, 0, equal(s, 2, 2));
        s.conclusion("(r = r) = q", a, -1, -1, 2, -1, -1, 2, R, R, Q);
        s.row("in the hypothesis, too", a, 0, -1, -1, 2, -1, -1, 2, R, R, Q);
        int b = s.step(18, pq, 0, 0);
        s.conclusion("itself", b, -1, -1, 2, P, Q);
        int swapped = s.step(18, pq, 0, equal(s, 0, 1));
        s.conclusion("only once", swapped, -1, -1, 2, -1, -1, 2, P, Q, Q);
        int none = s.step(18, pq, 2, 0);
        s.conclusion("a variable that is not there", none, -1, -1, 2, P, Q);
        int things = s.term(2, 0, 1);
        int otherType = s.step(18, pq, things, things);
        s.conclusion("variable 0 of things is another one", otherType, -1, -1, 2, P, Q);
        s.fails("of another type", 18, pq, 0, things);
        s.fails("no variable", 18, pq, 3, 3);
        s.fails("not closed", 18, pq, 0, s.term(6, 0, 0));
        s.fails("no sequent", 18, 99, 0, 0);
        s.fails("no term", 18, pq, 0, 99);
        s.fails("no variable there", 18, pq, 99, 0);
        s.fails("a bound one", 18, pq, s.term(6, 0, 0), 0);
    }

    private static void termPutInMakesAlike() {
        Scribe s = withTruths();
        int two = s.step(17, s.step(15, 0), s.step(15, 1));
        int three = s.step(17, two, s.step(15, 2));
        s.hypotheses("p, q, r", three, 3);
        int a = s.step(18, three, 2, 0);
        s.hypotheses("p, q, p", a, 2);
        s.row("p", a, 0, P);
        s.row("q", a, 1, Q);
        int b = s.step(18, three, 0, 2);
        s.hypotheses("r, q, r", b, 2);
        s.row("r at its first place", b, 0, R);
        s.row("q behind it", b, 1, Q);
    }

    private static void typesPutIn() {
        Scribe s = new Scribe();
        int truths = s.type(1, 0);
        int a = s.type(0, 0);
        int b = s.type(0, 1);
        int x = s.term(2, 0, s.function(a, b));
        int e = s.step(10, x);
        int one = s.step(19, e, 1, 0, truths);
        s.typeAt("truths to 'b", one, 3, 2, 0, -2);
        int swapped = s.step(19, e, 2, 0, b, 1, a);
        s.typeAt("at once", swapped, 3, 2, -2, -1);
        s.typeAt("in equality, too", swapped, 2, 2, 2, -2, -1, 2, 2, -2, -1, 0);
        int nested = s.step(19, e, 1, 0, s.function(a, a));
        s.typeAt("only once", nested, 3, 2, 2, -1, -1, -2);
        int nothing = s.step(19, e, 0);
        s.typeAt("nothing put in", nothing, 3, 2, -1, -2);
        int notThere = s.step(19, e, 1, 99999999, truths);
        s.typeAt("a variable that is not there", notThere, 3, 2, -1, -2);
        s.fails("one twice", 19, e, 2, 0, truths, 0, truths);
        s.fails("one twice, not beside", 19, e, 3, 0, truths, 1, truths, 0, truths);
        s.fails("no type", 19, e, 1, 0, 99);
        s.fails("type -1", 19, e, 1, 0, -1);
        s.fails("type variable -1", 19, e, 1, -1, truths);
        s.fails("type variable 100000000", 19, e, 1, 100000000, truths);
        s.fails("no sequent", 19, 99, 1, 0, truths);
        s.fails("k is -1", 19, e, -1, 0, truths);
    }

    private static void typesPutInMakeAlike() {
        Scribe s = new Scribe();
        int truths = s.type(1, 0);
        int a = s.type(0, 0);
        int b = s.type(0, 1);
        int f = s.term(2, 0, s.function(a, truths));
        int g = s.term(2, 0, s.function(b, truths));
        int fx = s.term(4, f, s.term(2, 0, a));
        int gx = s.term(4, g, s.term(2, 0, b));
        int both = s.step(17, s.step(15, fx), s.step(15, gx));
        int three = s.step(17, s.step(15, s.term(2, 5, truths)), both);
        s.hypotheses("of different types", three, 3);
        int same = s.step(19, three, 1, 1, a);
        s.hypotheses("of the same type", same, 2);
        s.row("the first one", same, 0, Scribe.free(5));
        s.row("the second one", same, 1, -1, 1, 1);
    }

    private static void hypothesesAreJoinedInOrder() {
        Scribe s = withTruths();
        int p = s.step(15, 0);
        int q = s.step(15, 1);
        int r = s.step(15, 2);
        int qp = s.step(17, q, p);
        int rqp = s.step(17, r, qp);
        int all = s.step(17, qp, rqp);
        s.hypotheses("q, p, then r", all, 3);
        s.row("q", all, 0, Q);
        s.row("p", all, 1, P);
        s.row("r", all, 2, R);
        int other = s.step(17, rqp, qp);
        s.row("r first", other, 0, R);
        s.row("then q", other, 1, Q);
        s.row("then p", other, 2, P);
    }
}
