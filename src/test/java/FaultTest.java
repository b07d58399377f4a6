/** Promise 4: fault tells where the entry that would not do began, for the latest judge. */
public final class FaultTest {
    public static void main(String[] args) {
        Scribe s = new Scribe();
        Checks.same("before any judge", s.judge.fault(), -1);
        s.say(1, 0, 2, 0);
        Checks.same("before the judge of it", s.judge.fault(), -1);
        s.judge.judge();
        Checks.same("an entry that is not whole", s.judge.fault(), 2);
        s.say(2, 0, 0, 15);
        Checks.same("still that of the latest judge", s.judge.fault(), 2);
        s.judge.judge();
        Checks.same("counted anew", s.judge.fault(), 3);
        s.say(15, 0);
        s.judge.judge();
        Checks.same("no fault", s.judge.fault(), -1);
        s.say(19, 0, 1, 0, 0, 19, 0, 2, 0, 0, 1, 0, 19, 0, 2, 0, 0, 0, 0);
        Checks.same("two steps", s.judge.judge(), 2);
        Checks.same("the same type variable twice", s.judge.fault(), 12);
        Checks.same("cut does not change it", Compare.cut(s.judge, 1), 0);
        Checks.same("behind cut", s.judge.fault(), 12);
        Checks.same("keep does not change it", Compare.keep(s.judge, 0, 0), 2);
        Checks.same("behind keep", s.judge.fault(), 12);
        Checks.same("nothing said", s.judge.judge(), 0);
        Checks.same("no fault then", s.judge.fault(), -1);
        Checks.end();
    }
}
