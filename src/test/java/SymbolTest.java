/** Promise 7: symbol tells symbol k of a hypothesis or a conclusion. */
public final class SymbolTest {
    public static void main(String[] args) {
        Scribe s = new Scribe();
        int truths = s.type(1, 0);
        int things = s.type(1, 1);
        int x = s.term(2, 0, things);
        int y = s.term(2, 99999999, things);
        int equality = s.equality(things, truths);
        int same = s.term(4, s.term(4, equality, x), y);
        int holds = s.step(15, same);
        s.conclusion("x = y", holds, -1, -1, 2, 1, 399999997);
        s.row("x = y, as hypothesis", holds, 0, -1, -1, 2, 1, 399999997);
        int p = s.step(15, s.term(2, 3, truths));
        int both = s.step(17, p, holds);
        s.row("the first hypothesis", both, 0, 13);
        s.row("the second one", both, 1, -1, -1, 2, 1, 399999997);
        s.conclusion("p = (x = y)", both, -1, -1, 2, 13, -1, -1, 2, 1, 399999997);
        int choice = s.term(3, 1, s.function(s.function(things, truths), things));
        int chosen = s.term(4, choice, s.term(5, things, s.term(4, s.term(4, equality, s.term(6, 0, things)), x)));
        int found = s.step(10, chosen);
        s.conclusion("choice of what is x", found, -1, -1, 2, -1, 6, -2, -1, -1, 2, 0, 1, -1, 6, -2, -1, -1, 2, 0, 1);
        none(s, both, 2, 0);
        none(s, both, -2, 0);
        none(s, both, 0, 1);
        none(s, both, 0, -1);
        none(s, both, -1, 9);
        none(s, both, -1, Integer.MAX_VALUE);
        none(s, both, -1, Integer.MIN_VALUE);
        none(s, both, Integer.MAX_VALUE, 0);
        none(s, both, Integer.MIN_VALUE, 0);
        none(s, found, 0, 0);
        none(s, found + 1, -1, 0);
        none(s, -1, -1, 0);
        none(s, Integer.MAX_VALUE, -1, 0);
        none(s, Integer.MIN_VALUE, -1, 0);
        Checks.end();
    }

    private static void none(Scribe s, int a, int i, int k) {
        Checks.same("symbol " + a + ", " + i + ", " + k, Compare.symbol(s.judge, a, i, k), Compare.THROWN);
    }
}
