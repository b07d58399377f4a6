/** Promise 5: size tells how many sequents there are. */
public final class SizeTest {
    public static void main(String[] args) {
        Scribe s = new Scribe();
        Checks.same("at first", s.judge.size(), 0);
        s.type(1, 0);
        s.term(2, 0, 0);
        Checks.same("types and terms are none", s.judge.size(), 0);
        s.say(15, 0);
        Checks.same("before judge", s.judge.size(), 0);
        s.judge.judge();
        Checks.same("one step", s.judge.size(), 1);
        s.fails("a step that will not do", 15, 1);
        s.step(22, 0);
        s.step(22, 1);
        Checks.same("three steps", s.judge.size(), 3);
        int identity = s.term(5, 0, s.term(6, 0, 0));
        int a = s.step(10, identity);
        s.step(21, a);
        Checks.same("step 21 makes two", s.judge.size(), 6);
        s.step(10, 0);
        Compare.cut(s.judge, 6);
        Checks.same("behind cut", s.judge.size(), 6);
        Checks.end();
    }
}
