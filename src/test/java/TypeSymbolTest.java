/** Promise 8: typeSymbol tells a symbol of the type of a symbol. */
public final class TypeSymbolTest {
    public static void main(String[] args) {
        Scribe s = new Scribe();
        int truths = s.type(1, 0);
        int a = s.type(0, 0);
        int high = s.type(0, 99999999);
        int x = s.term(2, 0, s.function(s.function(a, high), truths));
        int e = s.step(10, x);
        s.typeAt("the equation", e, 0, 0);
        s.typeAt("the application inside", e, 1, 2, 2, 2, -1, -100000000, 0, 0);
        s.typeAt("equality", e, 2, 2, 2, 2, -1, -100000000, 0, 2, 2, 2, -1, -100000000, 0, 0);
        s.typeAt("the variable", e, 3, 2, 2, -1, -100000000, 0);
        int p = s.term(2, 0, truths);
        int h = s.step(15, p);
        Checks.same("of a hypothesis", Compare.typeSymbol(s.judge, h, 0, 0, 0), 0);
        none(s, h, 0, 0, 1);
        none(s, h, 0, 0, -1);
        none(s, h, 0, 1, 0);
        none(s, h, 1, 0, 0);
        none(s, h, -2, 0, 0);
        none(s, h, -1, -1, 0);
        none(s, h + 1, -1, 0, 0);
        none(s, -1, -1, 0, 0);
        none(s, e, -1, 3, 5);
        none(s, e, -1, 3, Integer.MAX_VALUE);
        none(s, e, -1, 3, Integer.MIN_VALUE);
        none(s, e, -1, 5, 0);
        int identity = s.term(5, a, s.term(6, 0, a));
        s.step(21, s.step(10, identity));
        int made = s.type(1, 3, truths);
        int m = s.step(10, s.term(2, 0, made));
        s.typeAt("a constructor that a step made", m, 3, 3, 0);
        Checks.end();
    }

    private static void none(Scribe s, int a, int i, int k, int place) {
        Checks.same("type symbol " + a + ", " + i + ", " + k + ", " + place,
            Compare.typeSymbol(s.judge, a, i, k, place), Compare.THROWN);
    }
}
