/** Promise 6: hypotheses tells how many hypotheses a sequent has. */
public final class HypothesesTest {
    public static void main(String[] args) {
        Scribe s = new Scribe();
        s.type(1, 0);
        int p = s.term(2, 0, 0);
        int q = s.term(2, 1, 0);
        int none = s.step(10, p);
        int one = s.step(15, p);
        int other = s.step(15, q);
        int two = s.step(17, one, other);
        s.hypotheses("none", none, 0);
        s.hypotheses("one", one, 1);
        s.hypotheses("two", two, 2);
        s.hypotheses("sequent -1", -1, Compare.THROWN);
        s.hypotheses("sequent 4", 4, Compare.THROWN);
        s.hypotheses("the highest number", Integer.MAX_VALUE, Compare.THROWN);
        s.hypotheses("the lowest number", Integer.MIN_VALUE, Compare.THROWN);
        Compare.cut(s.judge, two);
        s.hypotheses("one that was cut", two, Compare.THROWN);
        s.hypotheses("the one before", other, 1);
        Checks.end();
    }
}
