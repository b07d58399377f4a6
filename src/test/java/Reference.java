import java.util.ArrayList;
import java.util.Arrays;
import java.util.Collections;
import java.util.HashMap;
import java.util.HashSet;
import java.util.IdentityHashMap;
import java.util.LinkedHashSet;
import java.util.List;
import java.util.Map;
import java.util.Objects;
import java.util.Set;
import java.util.TreeSet;

/**
 * The document once more, written for plainness alone: terms are trees with named variables where
 * they can be, nothing is shared or remembered, and every limit is counted anew from all that is
 * there. The random runs compare TraceJudge with it.
 */
final class Reference {
    /** A type variable n has the head -1 - n. */
    static final class Type {
        final int head;
        final List<Type> parts;
        final int symbols;
        final int height;
        final int hash;

        Type(int head, Type... parts) {
            this.head = head;
            this.parts = Arrays.asList(parts);
            int s = 1;
            int h = 0;
            for (Type part : parts) {
                s += part.symbols;
                h = Math.max(h, part.height);
            }
            symbols = s;
            height = h + 1;
            hash = Objects.hash(head, this.parts);
        }

        @Override public int hashCode() {
            return hash;
        }

        @Override public boolean equals(Object o) {
            return o == this || o instanceof Type
                && ((Type) o).hash == hash && ((Type) o).head == head && ((Type) o).parts.equals(parts);
        }

        Type put(Map<Integer, Type> types) {
            if (head < 0) {
                return types.getOrDefault(-1 - head, this);
            }
            Type[] made = new Type[parts.size()];
            for (int i = 0; i < made.length; i++) {
                made[i] = parts.get(i).put(types);
            }
            return new Type(head, made);
        }

        void variables(Set<Integer> into) {
            if (head < 0) {
                into.add(-1 - head);
            }
            for (Type part : parts) {
                part.variables(into);
            }
        }

        void write(List<Integer> into) {
            into.add(head);
            for (Type part : parts) {
                part.write(into);
            }
        }

        boolean becomes(Type other, Map<Integer, Type> by) {
            if (head < 0) {
                Type before = by.putIfAbsent(-1 - head, other);
                return before == null || before.equals(other);
            }
            if (head != other.head) {
                return false;
            }
            for (int i = 0; i < parts.size(); i++) {
                if (!parts.get(i).becomes(other.parts.get(i), by)) {
                    return false;
                }
            }
            return true;
        }
    }

    enum Kind { BOUND, FREE, CONSTANT, APPLICATION, ABSTRACTION }

    static final class Term {
        final Kind kind;
        final int number;
        final Type type;
        final Term one;
        final Term two;
        final int symbols;
        final int height;
        final int hash;

        Term(Kind kind, int number, Type type, Term one, Term two) {
            this.kind = kind;
            this.number = number;
            this.type = type;
            this.one = one;
            this.two = two;
            symbols = 1 + (one == null ? 0 : one.symbols) + (two == null ? 0 : two.symbols);
            height = 1 + Math.max(one == null ? 0 : one.height, two == null ? 0 : two.height);
            hash = Objects.hash(kind, number, type, one, two);
        }

        @Override public int hashCode() {
            return hash;
        }

        @Override public boolean equals(Object o) {
            if (!(o instanceof Term)) {
                return false;
            }
            Term t = (Term) o;
            return t == this || t.hash == hash && t.kind == kind && t.number == number && t.type.equals(type)
                && Objects.equals(t.one, one) && Objects.equals(t.two, two);
        }

        List<Term> prefix() {
            List<Term> all = new ArrayList<>();
            prefix(all);
            return all;
        }

        private void prefix(List<Term> into) {
            into.add(this);
            if (one != null) {
                one.prefix(into);
            }
            if (two != null) {
                two.prefix(into);
            }
        }

        boolean isClosed(int inside) {
            if (kind == Kind.BOUND) {
                return number < inside;
            }
            int next = kind == Kind.ABSTRACTION ? inside + 1 : inside;
            return (one == null || one.isClosed(next)) && (two == null || two.isClosed(next));
        }

        boolean binds(int index, Type t) {
            if (kind == Kind.BOUND) {
                return number != index || type.equals(t);
            }
            int next = kind == Kind.ABSTRACTION ? index + 1 : index;
            return (one == null || one.binds(next, t)) && (two == null || two.binds(next, t));
        }

        boolean has(Term leaf) {
            return equals(leaf) || one != null && one.has(leaf) || two != null && two.has(leaf);
        }

        boolean hasFree() {
            return kind == Kind.FREE || one != null && one.hasFree() || two != null && two.hasFree();
        }

        Term bind(Term v, int index) {
            if (equals(v)) {
                return new Term(Kind.BOUND, index, type, null, null);
            }
            int next = kind == Kind.ABSTRACTION ? index + 1 : index;
            return one == null ? this
                : new Term(kind, number, type, one.bind(v, next), two == null ? null : two.bind(v, next));
        }

        Term unbind(int index, Term by) {
            if (kind == Kind.BOUND) {
                return number == index ? by : this;
            }
            int next = kind == Kind.ABSTRACTION ? index + 1 : index;
            return one == null ? this
                : new Term(kind, number, type, one.unbind(next, by), two == null ? null : two.unbind(next, by));
        }

        Term put(Term v, Term t) {
            if (equals(v)) {
                return t;
            }
            return one == null ? this
                : new Term(kind, number, type, one.put(v, t), two == null ? null : two.put(v, t));
        }

        Term putTypes(Map<Integer, Type> types) {
            return new Term(kind, number, type.put(types), one == null ? null : one.putTypes(types),
                two == null ? null : two.putTypes(types));
        }

        Set<Integer> typeVariables() {
            Set<Integer> all = new TreeSet<>();
            for (Term t : prefix()) {
                t.type.variables(all);
            }
            return all;
        }

        boolean isEquation() {
            return kind == Kind.APPLICATION && one.kind == Kind.APPLICATION
                && one.one.kind == Kind.CONSTANT && one.one.number == 0;
        }

        Term leftSide() {
            return one.two;
        }

        Term rightSide() {
            return two;
        }
    }

    static final class Sequent {
        final Set<Term> hypotheses;
        final Term conclusion;
        boolean isOfDefinition;
        int typesThen;
        int termsThen;

        Sequent(Set<Term> hypotheses, Term conclusion) {
            this.hypotheses = hypotheses;
            this.conclusion = conclusion;
        }
    }

    /** Thrown where an entry will not do. */
    static final class WillNotDo extends RuntimeException {
        private static final long serialVersionUID = 1L;
    }

    static final Type TRUTHS = new Type(0);
    static final Type THINGS = new Type(1);
    static final Type A = new Type(-1);
    static final Type B = new Type(-2);

    final List<Integer> said = new ArrayList<>();
    final List<Type> types = new ArrayList<>();
    final List<Term> terms = new ArrayList<>();
    final List<Sequent> sequents = new ArrayList<>();
    final List<Integer> constructors = new ArrayList<>(List.of(0, 0, 2));
    final List<Type> constants = new ArrayList<>();
    int fault = -1;
    private int at;

    Reference() {
        constants.add(to(A, to(A, TRUTHS)));
        constants.add(to(to(A, TRUTHS), A));
    }

    static Type to(Type from, Type to) {
        return new Type(2, from, to);
    }

    boolean say(int n) {
        if (said.size() >= 20000) {
            return false;
        }
        said.add(n);
        return true;
    }

    int judge() {
        int steps = 0;
        fault = -1;
        at = 0;
        while (at < said.size()) {
            int began = at;
            int sizes = sequents.size();
            int typesBefore = types.size();
            int termsBefore = terms.size();
            int constructorsBefore = constructors.size();
            int constantsBefore = constants.size();
            try {
                int kind = next();
                if (kind < 10) {
                    entry(kind);
                } else {
                    step(kind);
                }
                checkLimits();
                steps += kind < 10 ? 0 : 1;
            } catch (WillNotDo e) {
                fault = began;
                shorten(sequents, sizes);
                shorten(types, typesBefore);
                shorten(terms, termsBefore);
                shorten(constructors, constructorsBefore);
                shorten(constants, constantsBefore);
                break;
            }
        }
        said.clear();
        return steps;
    }

    private static void shorten(List<?> list, int n) {
        while (list.size() > n) {
            list.remove(list.size() - 1);
        }
    }

    private static void need(boolean is) {
        if (!is) {
            throw new WillNotDo();
        }
    }

    private int next() {
        need(at < said.size());
        return said.get(at++);
    }

    private int name() {
        int n = next();
        need(n >= 0 && n <= 99999999);
        return n;
    }

    private <T> T one(List<T> list) {
        int n = next();
        need(n >= 0 && n < list.size());
        return list.get(n);
    }

    private Term closed() {
        Term t = one(terms);
        need(t.isClosed(0));
        return t;
    }

    private Term free() {
        Term t = one(terms);
        need(t.kind == Kind.FREE);
        return t;
    }

    private static Type type(int head, Type... parts) {
        Type t = new Type(head, parts);
        need(t.symbols <= 200 && t.height <= 24);
        return t;
    }

    private static Term leaf(Kind kind, int number, Type type) {
        need(type.symbols <= 200 && type.height <= 24);
        return new Term(kind, number, type, null, null);
    }

    private static Term apply(Term f, Term x) {
        need(f.type.head == 2 && f.type.parts.get(0).equals(x.type));
        Term t = new Term(Kind.APPLICATION, 0, f.type.parts.get(1), f, x);
        need(t.symbols <= 4000 && t.height <= 120);
        return t;
    }

    private static Term abstraction(Type a, Term body) {
        need(body.binds(0, a));
        Term t = new Term(Kind.ABSTRACTION, 0, type(2, a, body.type), body, null);
        need(t.symbols <= 4000 && t.height <= 120);
        return t;
    }

    private static Term lambda(Term v, Term body) {
        return abstraction(v.type, body.bind(v, 0));
    }

    private static Term equal(Term l, Term r) {
        return apply(apply(leaf(Kind.CONSTANT, 0, to(l.type, to(l.type, TRUTHS))), l), r);
    }

    private void entry(int kind) {
        switch (kind) {
            case 0: types.add(type(-1 - name())); break;
            case 1: {
                int c = next();
                need(c >= 0 && c < constructors.size());
                Type[] parts = new Type[constructors.get(c)];
                for (int i = 0; i < parts.length; i++) {
                    parts[i] = one(types);
                }
                types.add(type(c, parts));
                break;
            }
            case 2: {
                int n = name();
                terms.add(leaf(Kind.FREE, n, one(types)));
                break;
            }
            case 3: {
                int c = next();
                need(c >= 0 && c < constants.size());
                Type a = one(types);
                need(constants.get(c).becomes(a, new HashMap<>()));
                terms.add(leaf(Kind.CONSTANT, c, a));
                break;
            }
            case 4: {
                Term f = one(terms);
                terms.add(apply(f, one(terms)));
                break;
            }
            case 5: {
                Type a = one(types);
                terms.add(abstraction(a, one(terms)));
                break;
            }
            case 6: {
                int i = next();
                need(i >= 0 && i <= 119);
                terms.add(leaf(Kind.BOUND, i, one(types)));
                break;
            }
            default: need(false);
        }
    }

    private void add(Set<Term> hypotheses, Term conclusion) {
        need(conclusion.type.equals(TRUTHS));
        need(hypotheses.size() <= 60);
        sequents.add(new Sequent(hypotheses, conclusion));
    }

    private static Set<Term> joined(Sequent a, Sequent b) {
        Set<Term> all = new LinkedHashSet<>(a.hypotheses);
        all.addAll(b.hypotheses);
        return all;
    }

    private Sequent equation() {
        Sequent a = one(sequents);
        need(a.conclusion.isEquation());
        return a;
    }

    private void step(int kind) {
        switch (kind) {
            case 10: {
                Term t = closed();
                add(Set.of(), equal(t, t));
                break;
            }
            case 11: {
                Sequent a = equation();
                Sequent b = equation();
                need(a.conclusion.rightSide().equals(b.conclusion.leftSide()));
                add(joined(a, b), equal(a.conclusion.leftSide(), b.conclusion.rightSide()));
                break;
            }
            case 12: {
                Sequent a = equation();
                Sequent b = equation();
                add(joined(a, b), equal(apply(a.conclusion.leftSide(), b.conclusion.leftSide()),
                    apply(a.conclusion.rightSide(), b.conclusion.rightSide())));
                break;
            }
            case 13: {
                Term v = free();
                Sequent a = equation();
                for (Term h : a.hypotheses) {
                    need(!h.has(v));
                }
                add(a.hypotheses, equal(lambda(v, a.conclusion.leftSide()), lambda(v, a.conclusion.rightSide())));
                break;
            }
            case 14: {
                Term t = closed();
                need(t.kind == Kind.APPLICATION && t.one.kind == Kind.ABSTRACTION && t.two.kind == Kind.FREE);
                add(Set.of(), equal(t, t.one.one.unbind(0, t.two)));
                break;
            }
            case 15: {
                Term t = closed();
                add(Set.of(t), t);
                break;
            }
            case 16: {
                Sequent a = equation();
                Sequent b = one(sequents);
                need(a.conclusion.leftSide().equals(b.conclusion));
                add(joined(a, b), a.conclusion.rightSide());
                break;
            }
            case 17: {
                Sequent a = one(sequents);
                Sequent b = one(sequents);
                Set<Term> all = new LinkedHashSet<>(a.hypotheses);
                all.remove(b.conclusion);
                Set<Term> more = new LinkedHashSet<>(b.hypotheses);
                more.remove(a.conclusion);
                all.addAll(more);
                add(all, equal(a.conclusion, b.conclusion));
                break;
            }
            case 18: {
                Sequent a = one(sequents);
                Term v = free();
                Term t = closed();
                need(t.type.equals(v.type));
                Set<Term> all = new LinkedHashSet<>();
                for (Term h : a.hypotheses) {
                    all.add(h.put(v, t));
                }
                add(all, a.conclusion.put(v, t));
                break;
            }
            case 19: {
                Sequent a = one(sequents);
                int k = next();
                need(k >= 0 && k <= 250);
                Map<Integer, Type> by = new HashMap<>();
                for (int i = 0; i < k; i++) {
                    int n = name();
                    need(by.put(n, one(types)) == null);
                }
                Set<Term> all = new LinkedHashSet<>();
                for (Term h : a.hypotheses) {
                    all.add(h.putTypes(by));
                }
                add(all, a.conclusion.putTypes(by));
                break;
            }
            case 20: newConstant(); break;
            case 21: newConstructor(); break;
            case 22: axiom(next()); break;
            default: need(false);
        }
        sequents.get(sequents.size() - 1).typesThen = types.size();
        sequents.get(sequents.size() - 1).termsThen = terms.size();
    }

    private void newConstant() {
        Term t = closed();
        Set<Integer> inType = new HashSet<>();
        t.type.variables(inType);
        need(!t.hasFree() && inType.containsAll(t.typeVariables()));
        constants.add(t.type);
        add(Set.of(), equal(leaf(Kind.CONSTANT, constants.size() - 1, t.type), t));
        sequents.get(sequents.size() - 1).isOfDefinition = true;
    }

    private void newConstructor() {
        Sequent s = one(sequents);
        need(s.hypotheses.isEmpty() && s.conclusion.kind == Kind.APPLICATION);
        Term p = s.conclusion.one;
        Type old = s.conclusion.two.type;
        need(!p.hasFree());
        List<Type> variables = new ArrayList<>();
        for (int n : p.typeVariables()) {
            variables.add(new Type(-1 - n));
        }
        need(variables.size() <= 2);
        Type made = type(constructors.size(), variables.toArray(new Type[0]));
        constructors.add(variables.size());
        Term to = leaf(Kind.CONSTANT, constants.size(), to(old, made));
        Term fro = leaf(Kind.CONSTANT, constants.size() + 1, to(made, old));
        constants.add(to.type);
        constants.add(fro.type);
        Term a = leaf(Kind.FREE, 0, made);
        Term r = leaf(Kind.FREE, 0, old);
        add(Set.of(), equal(apply(to, apply(fro, a)), a));
        sequents.get(sequents.size() - 1).isOfDefinition = true;
        add(Set.of(), equal(apply(p, r), equal(apply(fro, apply(to, r)), r)));
        sequents.get(sequents.size() - 1).isOfDefinition = true;
    }

    private static Term choose(Term p) {
        return apply(leaf(Kind.CONSTANT, 1, to(p.type, p.type.parts.get(0))), p);
    }

    /** Names that are bound get numbers that no trace can say. */
    private static Term named(int n, Type type) {
        return new Term(Kind.FREE, -n, type, null, null);
    }

    private static Term truth() {
        Term p = named(1, TRUTHS);
        return equal(lambda(p, p), lambda(p, p));
    }

    private static Term and(Term p, Term q) {
        Term f = named(2, to(TRUTHS, to(TRUTHS, TRUTHS)));
        return equal(lambda(f, apply(apply(f, p), q)), lambda(f, apply(apply(f, truth()), truth())));
    }

    private static Term implies(Term p, Term q) {
        return equal(and(p, q), p);
    }

    private static Term all(Term v, Term p) {
        return equal(lambda(v, p), lambda(v, truth()));
    }

    private static Term some(Term v, Term p) {
        return apply(lambda(v, p), choose(lambda(v, p)));
    }

    private static Term not(Term p) {
        Term q = named(3, TRUTHS);
        return implies(p, all(q, q));
    }

    private void axiom(int k) {
        if (k == 0) {
            Term x = leaf(Kind.FREE, 0, A);
            Term f = leaf(Kind.FREE, 1, to(A, B));
            add(Set.of(), equal(lambda(x, apply(f, x)), f));
        } else if (k == 1) {
            Term x = leaf(Kind.FREE, 0, A);
            Term p = leaf(Kind.FREE, 1, to(A, TRUTHS));
            add(Set.of(), implies(apply(p, x), apply(p, choose(p))));
        } else {
            need(k == 2);
            Term x = named(4, THINGS);
            Term y = named(5, THINGS);
            Term f = named(6, to(THINGS, THINGS));
            Term oneToOne = all(x, all(y, implies(equal(apply(f, x), apply(f, y)), equal(x, y))));
            Term notOnto = some(y, all(x, not(equal(y, apply(f, x)))));
            add(Set.of(), some(f, and(oneToOne, notOnto)));
        }
    }

    private static void countTypes(Type t, Set<Type> into) {
        if (into.add(t)) {
            for (Type part : t.parts) {
                countTypes(part, into);
            }
        }
    }

    private static void countTypes(Term t, Set<Type> into, Set<Term> seen) {
        if (t != null && seen.add(t)) {
            countTypes(t.type, into);
            countTypes(t.one, into, seen);
            countTypes(t.two, into, seen);
        }
    }

    int differentTypes() {
        Set<Type> all = new HashSet<>();
        Set<Term> seen = Collections.newSetFromMap(new IdentityHashMap<>());
        for (Type t : types) {
            countTypes(t, all);
        }
        for (Type t : constants) {
            countTypes(t, all);
        }
        for (Term t : terms) {
            countTypes(t, all, seen);
        }
        for (Sequent s : sequents) {
            countTypes(s.conclusion, all, seen);
            for (Term h : s.hypotheses) {
                countTypes(h, all, seen);
            }
        }
        return all.size();
    }

    int sequentSymbols() {
        int sum = 0;
        for (Sequent s : sequents) {
            sum += s.conclusion.symbols;
            for (Term h : s.hypotheses) {
                sum += h.symbols;
            }
        }
        return sum;
    }

    private static void checkTypes(Term t, Set<Term> seen) {
        if (t != null && seen.add(t)) {
            need(t.type.symbols <= 200 && t.type.height <= 24);
            checkTypes(t.one, seen);
            checkTypes(t.two, seen);
        }
    }

    private void checkLimits() {
        need(sequents.size() <= 1000 && types.size() <= 8000 && terms.size() <= 16000);
        need(constants.size() <= 200 && constructors.size() <= 40);
        if (!sequents.isEmpty()) {
            Set<Term> seen = Collections.newSetFromMap(new IdentityHashMap<>());
            Sequent last = sequents.get(sequents.size() - 1);
            List<Term> all = new ArrayList<>(last.hypotheses);
            all.add(last.conclusion);
            for (Term t : all) {
                need(t.symbols <= 4000 && t.height <= 120);
                checkTypes(t, seen);
            }
        }
        need(sequentSymbols() <= 20000);
        need(differentTypes() <= 8000);
    }

    private boolean canCut(int n) {
        if (n < 0 || n > sequents.size()) {
            return false;
        }
        for (Sequent s : sequents.subList(n, sequents.size())) {
            if (s.isOfDefinition) {
                return false;
            }
        }
        return true;
    }

    /** 0, or 3 for IllegalArgumentException. */
    int cut(int n) {
        if (!canCut(n)) {
            return 3;
        }
        shorten(sequents, n);
        shorten(types, n == 0 ? 0 : sequents.get(n - 1).typesThen);
        shorten(terms, n == 0 ? 0 : sequents.get(n - 1).termsThen);
        return 0;
    }

    /** 0, or 1, 2, 3 for the exceptions of the face in their order. */
    int keep(int a, int n) {
        if (a < 0 || a >= sequents.size()) {
            return 1;
        }
        Sequent s = sequents.get(a);
        if (!s.hypotheses.isEmpty()) {
            return 2;
        }
        if (a < n || cut(n) != 0) {
            return 3;
        }
        Sequent again = new Sequent(Set.of(), s.conclusion);
        again.typesThen = types.size();
        again.termsThen = terms.size();
        sequents.add(again);
        return 0;
    }

    static int symbolOf(Term t) {
        switch (t.kind) {
            case APPLICATION: return -1;
            case ABSTRACTION: return -2;
            case BOUND: return 4 * t.number;
            case FREE: return 4 * t.number + 1;
            default: return 4 * t.number + 2;
        }
    }
}
