/** Promises 1 to 10: the bounds of each call's numbers, what is refused, and that refusals change nothing. */
public final class CallEdgesTest {
    private static final int LOW = Integer.MIN_VALUE;
    private static final int HIGH = Integer.MAX_VALUE;
    private static final int INDEX = 1;
    private static final int STATE = 2;
    private static final int ARGUMENT = 3;

    public static void main(String[] args) {
        newObject();
        sayTakesAnyNumber();
        sayTakesWhatARunCanSay();
        judgeOfNothing();
        judgeStopsAtTheFirst();
        judgeForgetsAllThatWasSaid();
        judgeCountsStepsAlone();
        faultTellsWhere();
        faultIsOfTheLatestJudge();
        sizeGoesUpAndDown();
        hypothesesOfASequent();
        symbolsOfARow();
        symbolsOfEachKind();
        typeSymbolsOfASymbol();
        typeSymbolsOfEachKind();
        cutNumbers();
        cutTakesEntriesBehindTheStep();
        cutOfNothing();
        cutBeforeDefinitions();
        cutThatIsRefused();
        whatWaitsStays();
        keepNumbers();
        keepIsACut();
        keepOfHypotheses();
        keepBeforeDefinitions();
        keepThatIsRefused();
        keepThenCut();
        lastCallOf512();
        Checks.end();
    }

    private static void newObject() {
        Run r = new Run("a new object");
        r.sizeIs("no sequents", 0);
        r.faultIs("no fault", -1);
        for (int a : new int[] {-1, 0, 1, LOW, HIGH}) {
            r.hypothesesAre("no sequent", a, Compare.THROWN);
            r.noSymbol("no sequent", a, -1, 0);
            r.noTypeSymbol("no sequent", a, -1, 0, 0);
            r.keepThrows("no sequent", a, 0, INDEX);
        }
        r.cutThrows("nothing there", 1);
        r.cutThrows("nothing there", -1);
        r.cuts("nothing goes", 0);
        r.judges("nothing said", 0);
        r.faultIs("nothing said", -1);
        r.fails("no types", 2, 0, 0);
        r.fails("no terms", 10, 0);
        r.fails("no sequents", 19, 0, 0);
        r.type(1, 0);
        r.fails("one type", 2, 0, 1);
        r.term(2, 0, 0);
        r.step(10, 0);
        r.does("the first of each is number 0");
    }

    private static void sayTakesAnyNumber() {
        for (int n : new int[] {0, -1, 7, 23, LOW, HIGH}) {
            Run r = new Run("say " + n);
            r.say(n);
            r.sizeIs("saying makes nothing", 0);
            r.faultIs("saying is no fault", -1);
            r.judges("it is no entry", 0);
            r.faultIs("it is no entry", 0);
        }
    }

    /** 511 numbers wait, and the last call reads them all. */
    private static void sayTakesWhatARunCanSay() {
        Run r = new Run("511 numbers wait");
        int p = r.truth(0);
        for (int i = 0; i < 253; i++) {
            r.step(15, p);
        }
        r.judges("253 steps", 253);
        Run odd = new Run("511 numbers wait, the last is not whole");
        odd.say(1, 0, 2, 0, 0);
        for (int i = 0; i < 252; i++) {
            odd.say(15, 0);
        }
        odd.say(15);
        odd.judges("252 steps", 252);
        odd.faultIs("the last", 509);
    }

    private static void judgeOfNothing() {
        Run r = new Run("judge of nothing");
        r.judges("nothing said", 0);
        r.faultIs("nothing said", -1);
        r.step(22, 0);
        r.does("something said");
        r.judges("nothing said since", 0);
        r.faultIs("nothing said since", -1);
        r.sizeIs("nothing has changed", 1);
    }

    private static void judgeStopsAtTheFirst() {
        Run r = new Run("judge stops at the first that will not do");
        r.say(9, 1, 0, 2, 0, 0, 15, 0);
        r.judges("the first entry", 0);
        r.faultIs("the first entry", 0);
        r.fails("nothing behind it was read", 2, 0, 0);
        r.say(1, 0, 2, 0, 0, 15, 0, 15, 1, 15, 0, 2, 1, 0);
        r.judges("one in the middle", 1);
        r.faultIs("one in the middle", 7);
        r.sizeIs("one in the middle", 1);
        r.say(15, 1);
        r.judges("no term 1 was made behind it", 0);
        r.faultIs("no term 1 was made behind it", 0);
        r.say(15, 0, 15, 0, 15, 1);
        r.judges("the last entry", 2);
        r.faultIs("the last entry", 4);
        r.sizeIs("the last entry", 3);
        r.say(15, 0, 7, 0, 7, 0);
        r.judges("two that will not do", 1);
        r.faultIs("the first of two", 2);
    }

    private static void judgeForgetsAllThatWasSaid() {
        Run r = new Run("judge forgets all that was said");
        r.truth(0);
        r.does("a type and a term");
        r.say(15);
        r.judges("not whole", 0);
        r.faultIs("not whole", 0);
        r.say(0);
        r.judges("what is missing comes too late", 0);
        r.faultIs("what is missing comes too late", 0);
        r.say(15, 1, 15, 0);
        r.judges("a fault, and a step behind it", 0);
        r.judges("that step has gone", 0);
        r.faultIs("no fault then", -1);
        r.sizeIs("no sequent", 0);
        r.step(15, 0);
        r.judges("one step", 1);
        r.judges("it is not read twice", 0);
        r.sizeIs("one sequent", 1);
    }

    private static void judgeCountsStepsAlone() {
        Run r = new Run("judge counts steps alone");
        r.say(1, 0, 0, 5, 6, 0, 0, 5, 0, 0, 2, 0, 0, 3, 0, 0);
        r.judges("entries, of which the last will not do", 0);
        r.faultIs("entries, of which the last will not do", 13);
        r.say(10, 1, 2, 1, 0, 20, 1, 21, 0, 22, 2);
        r.judges("four steps, of which 21 is one", 4);
        r.sizeIs("and five sequents", 5);
    }

    private static void faultTellsWhere() {
        Run r = new Run("fault tells where the entry began");
        r.say(1, 0, 2, 0, 0, 15, 0, 19, 0, 2, 5, 0, 5, 0);
        r.judges("type variable 5 twice", 1);
        r.faultIs("where it began, not where it is amiss", 7);
        r.say(-1);
        r.judges("at 0", 0);
        r.faultIs("at 0", 0);
        r.say(15, 0, 19, 0, 1, 5);
        r.judges("not whole", 1);
        r.faultIs("not whole", 2);
        r.say(15, 0);
        r.judges("none", 1);
        r.faultIs("none", -1);
    }

    private static void faultIsOfTheLatestJudge() {
        Run r = new Run("fault is of the latest judge");
        r.say(1, 0, 2, 0, 0, 10, 0, 99);
        r.faultIs("before it", -1);
        r.judges("99 is no entry", 1);
        r.faultIs("99 is no entry", 7);
        r.say(2, 1, 0);
        r.faultIs("what is said since does not matter", 7);
        r.hypothesesAre("a sequent", 0, 0);
    }

    private static void sizeGoesUpAndDown() {
        Run r = new Run("size");
        r.sizeIs("at first", 0);
        int i = r.identity(r.truths());
        r.does("types and terms");
        r.sizeIs("of types and terms", 0);
        r.say(10, i);
        r.sizeIs("said, not judged", 0);
        r.judges("judged", 1);
        r.sizeIs("judged", 1);
        r.say(10, i, 21, 0, 10, i, 10, i);
        r.judges("four more steps", 4);
        r.sizeIs("21 makes two", 6);
        r.say(10, 99);
        r.judges("no step", 0);
        r.sizeIs("no step", 6);
    }

    private static void hypothesesOfASequent() {
        Run r = new Run("hypotheses");
        int p = r.step(15, r.truth(0));
        int q = r.step(15, r.truth(1));
        int none = r.step(10, r.truth(0));
        int two = r.step(17, p, q);
        r.hypothesesAre("one, of the first", p, 1);
        r.hypothesesAre("none", none, 0);
        r.hypothesesAre("two, of the last", two, 2);
        for (int a : new int[] {-1, two + 1, LOW, HIGH}) {
            r.hypothesesAre("no such sequent", a, Compare.THROWN);
        }
        r.cuts("the last goes", two);
        r.hypothesesAre("it is no more", two, Compare.THROWN);
        r.hypothesesAre("the one before it", none, 0);
    }

    private static void symbolsOfARow() {
        Run r = new Run("symbol");
        int p = r.step(15, r.truth(0));
        int both = r.step(17, p, r.step(15, r.truth(1)));
        r.symbolIs("the first hypothesis", both, 0, 0, 1);
        r.symbolIs("the last hypothesis", both, 1, 0, 5);
        r.symbolIs("the conclusion's first symbol", both, -1, 0, -1);
        r.symbolIs("the conclusion's last symbol", both, -1, 4, 5);
        for (int i : new int[] {-2, 2, LOW, HIGH}) {
            r.noSymbol("no such hypothesis", both, i, 0);
        }
        for (int k : new int[] {-1, 5, LOW, HIGH}) {
            r.noSymbol("no such symbol of the conclusion", both, -1, k);
        }
        for (int k : new int[] {-1, 1, LOW, HIGH}) {
            r.noSymbol("no such symbol of the first hypothesis", both, 0, k);
            r.noSymbol("no such symbol of the last hypothesis", both, 1, k);
        }
        for (int a : new int[] {-1, both + 1, LOW, HIGH}) {
            r.noSymbol("no such sequent", a, -1, 0);
            r.noSymbol("no such sequent's hypothesis", a, 0, 0);
        }
        int none = r.step(10, r.truth(0));
        r.noSymbol("no hypothesis at all", none, 0, 0);
        r.symbolIs("but a conclusion", none, -1, 4, 1);
    }

    private static void symbolsOfEachKind() {
        Run r = new Run("symbol, each kind");
        int things = r.things();
        int inner = r.lambda(things, r.lambda(things, r.equal(things, r.bound(1, things), r.bound(0, things))));
        r.conclusionIs("\\x. \\y. x = y", r.step(10, inner),
            -1, -1, 2, -2, -2, -1, -1, 2, 4, 0, -2, -2, -1, -1, 2, 4, 0);
        int choice = r.constant(1, r.function(r.function(things, r.truths()), things));
        int property = r.free(99999999, r.function(things, r.truths()));
        r.conclusionIs("choice P", r.step(10, r.apply(choice, property)),
            -1, -1, 2, -1, 6, 399999997, -1, 6, 399999997);
        r.step(20, r.identity(things));
        r.conclusionIs("constant 2", r.step(10, r.constant(2, r.function(things, things))), -1, -1, 2, 10, 10);
        r.conclusionIs("free variable 0", r.step(10, r.free(0, things)), -1, -1, 2, 1, 1);
    }

    private static void typeSymbolsOfASymbol() {
        Run r = new Run("typeSymbol");
        int f = r.free(0, r.function(r.things(), r.function(r.typeVariable(0), r.truths())));
        int e = r.step(10, f);
        r.typeIs("f", e, 3, 2, 1, 2, -1, 0);
        for (int place : new int[] {-1, 5, LOW, HIGH}) {
            r.noTypeSymbol("no such symbol of the type", e, -1, 3, place);
        }
        for (int k : new int[] {-1, 5, LOW, HIGH}) {
            r.noTypeSymbol("no such symbol", e, -1, k, 0);
        }
        for (int i : new int[] {-2, 0, LOW, HIGH}) {
            r.noTypeSymbol("no such hypothesis", e, i, 0, 0);
        }
        for (int a : new int[] {-1, 1, LOW, HIGH}) {
            r.noTypeSymbol("no such sequent", a, -1, 0, 0);
        }
        int both = r.step(17, r.step(15, r.truth(0)), r.step(15, r.truth(1)));
        r.typeSymbolIs("of the first hypothesis", both, 0, 0, 0, 0);
        r.typeSymbolIs("of the last hypothesis", both, 1, 0, 0, 0);
        r.noTypeSymbol("of no other", both, 2, 0, 0);
        r.noTypeSymbol("only one", both, 1, 0, 1);
    }

    private static void typeSymbolsOfEachKind() {
        Run r = new Run("typeSymbol, each kind");
        int a = r.typeVariable(99999999);
        int x = r.free(3, a);
        int same = r.step(10, r.lambda(a, r.equal(a, r.bound(0, a), x)));
        r.conclusionIs("\\y. y = x", same, -1, -1, 2, -2, -1, -1, 2, 0, 13, -2, -1, -1, 2, 0, 13);
        r.typeIs("an application", same, 0, 0);
        r.typeIs("an application that answers a function", same, 5, 2, -100000000, 0);
        r.typeIs("an abstraction", same, 3, 2, -100000000, 0);
        r.typeIs("a constant", same, 6, 2, -100000000, 2, -100000000, 0);
        r.typeIs("a bound variable", same, 7, -100000000);
        r.typeIs("a free variable", same, 8, -100000000);
        r.typeIs("type variable 0", r.step(10, r.free(3, r.typeVariable(0))), 3, -1);
        r.makeConstructor3();
        r.typeIs("constructor 3", r.step(10, r.free(3, r.type(1, 3, r.things()))), 3, 3, 1);
    }

    private static void cutNumbers() {
        Run r = new Run("cut: n is 0 .. their number");
        for (int i = 0; i < 3; i++) {
            r.step(15, r.truth(i));
        }
        for (int n : new int[] {-1, 4, LOW, HIGH}) {
            r.cutThrows("no such number", n);
        }
        r.cuts("their number", 3);
        r.sizeIs("none goes", 3);
        r.cuts("one less", 2);
        r.sizeIs("one goes", 2);
        r.cutThrows("their number before", 3);
        r.conclusionIs("the last that is left", 1, 5);
        r.hypothesesAre("the one that has gone", 2, Compare.THROWN);
        r.cuts("0", 0);
        r.sizeIs("all go", 0);
        r.cutThrows("none are left", 1);
        r.cuts("0 again", 0);
    }

    private static void cutTakesEntriesBehindTheStep() {
        Run r = new Run("cut: entries behind the step that made sequent n - 1");
        r.type(1, 0);
        r.term(2, 0, 0);
        int first = r.step(15, 0);
        r.type(1, 1);
        r.term(2, 1, 0);
        r.step(15, 1);
        r.type(0, 7);
        r.term(2, 2, 0);
        r.step(15, 2);
        r.cuts("two are left", 2);
        r.fails("a type behind the last step", 2, 0, 2);
        r.fails("a term behind the last step", 15, 2);
        r.typeIs("a type before it", r.step(10, r.term(2, 5, 1)), 3, 1);
        r.conclusionIs("a term before it", r.step(15, 1), 5);
        r.cuts("one is left", first + 1);
        r.fails("a type behind the first step", 2, 0, 1);
        r.fails("a term behind the first step", 15, 1);
        r.conclusionIs("a term before it", r.step(15, 0), 1);
        r.type(0, 3);
        r.term(2, 9, 1);
        int anew = r.step(10, 1);
        r.conclusionIs("numbers go on from there", anew, -1, -1, 2, 37, 37);
        r.typeIs("types, too", anew, 3, -4);
        r.cuts("all", 0);
        r.fails("no type is left", 2, 0, 0);
        r.fails("no term is left", 15, 0);
    }

    private static void cutOfNothing() {
        Run r = new Run("cut: only entries go");
        r.type(1, 0);
        r.term(2, 0, 0);
        r.cuts("all, without a step", 0);
        r.fails("the type has gone", 2, 0, 0);
        r.type(1, 1);
        r.term(2, 0, 0);
        r.step(10, 0);
        r.term(2, 1, 0);
        r.type(1, 0);
        r.cuts("behind the last step", 1);
        r.sizeIs("no sequent goes", 1);
        r.fails("the term has gone", 10, 1);
        r.fails("the type has gone", 2, 0, 1);
        r.step(10, 0);
        r.does("what came before is there");
    }

    private static void cutBeforeDefinitions() {
        Run r = new Run("cut: sequents of steps 20 and 21 do not go");
        int i = r.identity(r.truths());
        int before = r.step(10, i);
        int constant = r.step(20, i);
        int between = r.step(10, i);
        r.cutThrows("all", 0);
        r.cutThrows("the one before it, and it", before);
        r.cutThrows("it", constant);
        r.cuts("the one behind it", between);
        r.cuts("none", between);
        int second = r.step(21, before);
        r.step(10, i);
        r.cutThrows("both of step 21", second - 1);
        r.cutThrows("the second of step 21", second);
        r.cutThrows("the one of step 20", constant);
        r.cuts("the one behind", second + 1);
        r.sizeIs("four are left", 4);
        r.fails("a definition that will not do", 20, r.truth(0));
        r.fails("another", 21, r.step(15, r.truth(0)));
        r.cuts("it made nothing that stays", second + 1);
        r.constant(2, r.function(r.truths(), r.truths()));
        r.type(1, 3);
        r.does("constant and constructor are there");
    }

    private static void cutThatIsRefused() {
        Run r = new Run("cut: what is refused changes nothing");
        r.step(15, r.truth(0));
        r.type(1, 1);
        r.term(2, 5, 1);
        r.cutThrows("no such number", 2);
        r.cutThrows("no such number", -1);
        int last = r.step(10, 1);
        r.conclusionIs("the term behind the step is there", last, -1, -1, 2, 21, 21);
        r.typeIs("and its type", last, 3, 1);
        r.rowIs("and the hypothesis", 0, 0, 1);
    }

    private static void whatWaitsStays() {
        TraceJudge judge = new TraceJudge();
        say(judge, 1, 0, 2, 0, 0, 10, 0);
        Checks.same("a step", judge.judge(), 1);
        say(judge, 1, 0, 2, 5, 0, 10);
        Checks.same("a cut that is refused", Compare.cut(judge, 2), ARGUMENT);
        Checks.same("a keep that is refused", Compare.keep(judge, 1, 0), INDEX);
        Checks.same("a keep", Compare.keep(judge, 0, 0), 0);
        Checks.same("a cut", Compare.cut(judge, 0), 0);
        Checks.same("what waits makes no sequent", judge.size(), 0);
        say(judge, 0);
        Checks.same("what was said before and behind", judge.judge(), 1);
        Checks.same("is one entry", judge.fault(), -1);
        Checks.same("of term 0", Compare.symbol(judge, 0, -1, 3), 21);
    }

    private static void say(TraceJudge judge, int... numbers) {
        for (int n : numbers) {
            Checks.that("say " + n, judge.say(n));
        }
    }

    private static void keepNumbers() {
        Run r = new Run("keep: a is n or more, and there is such a sequent");
        for (int i = 0; i < 4; i++) {
            r.step(10, r.truth(i));
        }
        for (int a : new int[] {-1, 4, LOW, HIGH}) {
            r.keepThrows("no such sequent", a, 0, INDEX);
            r.keepThrows("no such sequent, whatever n", a, 9, INDEX);
        }
        for (int n : new int[] {-1, 5, LOW, HIGH}) {
            r.keepThrows("no such n", 3, n, ARGUMENT);
        }
        r.keepThrows("a is one below n", 2, 3, ARGUMENT);
        r.keepThrows("a is the last, n their number", 3, 4, ARGUMENT);
        r.keepThrows("a is 0, n their number", 0, 4, ARGUMENT);
        r.keepThrows("a is 0, n 1", 0, 1, ARGUMENT);
        r.keeps("a is n, the last", 3, 3);
        r.sizeIs("none goes", 4);
        r.conclusionIs("the last", 3, -1, -1, 2, 13, 13);
        r.keeps("a is n", 1, 1);
        r.sizeIs("those behind go", 2);
        r.conclusionIs("the last now", 1, -1, -1, 2, 5, 5);
        r.keeps("a is one more than n", 1, 0);
        r.sizeIs("one is left", 1);
        r.conclusionIs("it is number 0", 0, -1, -1, 2, 5, 5);
        r.keepThrows("the number that it had", 1, 0, INDEX);
        r.keeps("0 as 0", 0, 0);
        r.conclusionIs("it stays", 0, -1, -1, 2, 5, 5);
    }

    private static void keepIsACut() {
        Run r = new Run("keep: types and terms go as with cut");
        r.type(1, 0);
        r.term(2, 0, 0);
        r.step(10, 0);
        r.type(0, 4);
        r.term(2, 1, 1);
        r.step(10, 1);
        r.keeps("1 as 1", 1, 1);
        r.fails("the type that came behind sequent 0", 2, 0, 1);
        r.fails("the term that came behind sequent 0", 10, 1);
        r.conclusionIs("the term that came before", r.step(10, 0), -1, -1, 2, 1, 1);
        r.conclusionIs("what was kept", 1, -1, -1, 2, 5, 5);
        r.typeIs("of its type", 1, 3, -5);
        r.keeps("1 as 0", 1, 0);
        r.fails("no type is left", 2, 0, 0);
        r.fails("no term is left", 10, 0);
        r.typeIs("the kept one is as it was", 0, 3, -5);
        r.typeIs("its equality, too", 0, 2, 2, -5, 2, -5, 0);
        r.type(0, 4);
        r.term(2, 1, 0);
        int anew = r.step(10, 0);
        r.conclusionIs("types are the same anew", r.step(11, 0, anew), -1, -1, 2, 5, 5);
    }

    private static void keepOfHypotheses() {
        Run r = new Run("keep: no hypotheses");
        int none = r.step(10, r.truth(0));
        int one = r.step(15, r.truth(0));
        int without = r.step(17, one, one);
        r.keepThrows("one hypothesis", one, one, STATE);
        r.keepThrows("one hypothesis, for all", one, 0, STATE);
        r.hypothesesAre("its hypothesis went", without, 0);
        r.keeps("none any more", without, one);
        r.conclusionIs("p = p", one, -1, -1, 2, 1, 1);
        r.hypothesesAre("none", one, 0);
        r.keeps("none at all", none, none);
        r.sizeIs("one is left", 1);
    }

    private static void keepBeforeDefinitions() {
        Run r = new Run("keep: sequents of steps 20 and 21 do not go");
        int i = r.identity(r.truths());
        r.step(10, i);
        int constant = r.step(20, i);
        int behind = r.step(10, i);
        r.keepThrows("all", behind, 0, ARGUMENT);
        r.keepThrows("the definition among them", behind, constant, ARGUMENT);
        r.keepThrows("the definition itself", constant, constant, ARGUMENT);
        r.keepThrows("one before it", 0, 0, ARGUMENT);
        r.keeps("behind it", behind, behind);
        int second = r.step(21, 0);
        int last = r.step(10, r.identity(r.things()));
        r.keepThrows("the second of step 21", last, second, ARGUMENT);
        r.keepThrows("the first of step 21", last, second - 1, ARGUMENT);
        r.step(10, i);
        r.keeps("behind both", last, second + 1);
        r.typeIs("it is there", second + 1, 3, 2, 1, 1);
        r.sizeIs("six", 6);
        r.cuts("what is kept can go", second + 1);
        r.sizeIs("five", 5);
    }

    private static void keepThatIsRefused() {
        Run r = new Run("keep: what is refused changes nothing");
        int p = r.truth(0);
        r.step(10, p);
        r.step(15, p);
        r.type(1, 1);
        r.term(2, 6, 1);
        r.keepThrows("no such sequent", 2, 0, INDEX);
        r.keepThrows("a hypothesis", 1, 0, STATE);
        r.keepThrows("no such n", 0, 3, ARGUMENT);
        r.keepThrows("a is below n", 0, 1, ARGUMENT);
        r.conclusionIs("the last term is there", r.step(10, 1), -1, -1, 2, 25, 25);
        r.typeIs("and its type", 2, 3, 1);
        r.hypothesesAre("the hypothesis", 1, 1);
    }

    private static void keepThenCut() {
        Run r = new Run("keep, and then cut");
        r.type(1, 0);
        r.term(2, 0, 0);
        r.step(10, 0);
        r.term(2, 1, 0);
        r.step(10, 1);
        r.step(10, 1);
        r.keeps("2 as 1", 2, 1);
        r.term(2, 2, 0);
        r.cuts("behind what was kept", 2);
        r.fails("the term behind it has gone", 10, 1);
        r.conclusionIs("what was kept is there", 1, -1, -1, 2, 5, 5);
        r.step(10, 0);
        r.cuts("what was kept", 1);
        r.sizeIs("one is left", 1);
        r.step(10, 0);
        r.does("the term before it is there");
    }

    /** The last of 512 calls is answered as any other: 9 calls make a sequent. */
    private static void lastCallOf512() {
        int[] due = {-1, -1, 2, 1, 1};
        Run asked = new Run("call 512 is a question");
        asked.step(10, asked.truth(0));
        for (int call = 10; call <= 512; call++) {
            asked.symbolIs("call " + call, 0, -1, call % 5, due[call % 5]);
        }
        Run judged = new Run("call 512 is a judge");
        judged.step(10, judged.truth(0));
        judged.does("a sequent");
        for (int call = 10; call <= 511; call += 2) {
            judged.say(22, 0);
        }
        judged.judges("call 512", 251);
    }
}
