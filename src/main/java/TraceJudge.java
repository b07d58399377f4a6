import java.util.Arrays;

/**
 * Checks proofs: it reads the trace of a kernel for higher-order logic, a row of numbers, makes
 * the terms and sequents that it speaks of anew, and accepts step after step, or tells the first
 * thing that will not do.
 */
public final class TraceJudge {
    /** No such thing: no part of a type or term, no place, no number. */
    private static final int NONE = -1;
    /** A type that a limit forbids; what is made of it is refused, too. */
    private static final int REFUSED = -2;

    private static final int MAX_WAITING = 20000;
    private static final int MAX_NAME = 99999999;
    private static final int MAX_TYPE_SYMBOLS = 200;
    private static final int MAX_TYPE_HEIGHT = 24;
    private static final int MAX_TERM_SYMBOLS = 4000;
    private static final int MAX_TERM_HEIGHT = 120;
    private static final int MAX_BOUND = 119;
    private static final int MAX_HYPOTHESES = 60;
    private static final int MAX_PUT_IN = 250;
    private static final int MAX_SEQUENTS = 1000;
    private static final int MAX_SEQUENT_SYMBOLS = 20000;
    private static final int MAX_ENTRY_TYPES = 8000;
    private static final int MAX_ENTRY_TERMS = 16000;
    private static final int MAX_TYPES = 8000;
    private static final int MAX_CONSTANTS = 200;
    private static final int MAX_CONSTRUCTORS = 40;

    /** Constructors, by number. */
    private static final int TRUTHS = 0;
    private static final int THINGS = 1;
    private static final int FUNCTIONS = 2;

    /** Symbols of terms, as symbol() tells them: the leaves are 4 times a number and one of these. */
    private static final int APPLICATION = -1;
    private static final int ABSTRACTION = -2;
    private static final int BOUND = 0;
    private static final int FREE = 1;
    private static final int CONSTANT = 2;
    private static final int EQUALITY = CONSTANT;
    private static final int CHOICE = 4 + CONSTANT;
    private static final int FREE_0 = FREE;
    private static final int FREE_1 = 4 + FREE;

    /** The places of two types that are always there: equality's own type takes them. */
    private static final int TYPE_A = 0;
    private static final int TYPE_TRUTHS = 1;

    private static final int FIRST_STEP = 10;
    /** How many numbers an entry of a kind has; 0 where there is no such kind, or where it varies. */
    private static final int[] ENTRY_LENGTHS =
        {2, 0, 3, 3, 3, 3, 3, 0, 0, 0, 2, 3, 3, 3, 2, 2, 3, 3, 4, 0, 2, 2, 2};
    private static final int TYPE_ENTRY = 1;
    private static final int TYPES_STEP = 19;

    /** Rows start short and grow, so that a new object is cheap. */
    private static final int START_LENGTH = 64;

    private final Types types;
    private final Signature signature;
    private final Entries entries;
    private final Rows rows;
    private final Sequents sequents;
    private final Steps steps;
    private final Axioms axioms;
    private int[] said;
    private int waiting;
    private int faultAt;

    public TraceJudge() {
        types = new Types();
        signature = new Signature(types);
        entries = new Entries(types, signature);
        rows = new Rows(types);
        sequents = new Sequents(types, entries, rows);
        steps = new Steps(types, signature, entries, rows, sequents);
        axioms = new Axioms(types, rows);
        said = new int[START_LENGTH];
        waiting = 0;
        faultAt = NONE;
    }

    public boolean say(int n) {
        if (waiting >= MAX_WAITING) {
            return false;
        }
        if (waiting == said.length) {
            said = longer(said);
        }
        said[waiting] = n;
        waiting++;
        return true;
    }

    public int judge() {
        int accepted = 0;
        int at = 0;
        faultAt = NONE;
        for (int entry = 0; entry < MAX_WAITING && at < waiting && faultAt == NONE; entry++) {
            int typesBefore = types.count;
            int sequentsBefore = sequents.count;
            signature.remember();
            int length = entryLength(at);
            if (length == 0 || !accepts(at)) {
                faultAt = at;
                sequents.shorten(sequentsBefore);
                types.shorten(typesBefore);
                signature.undo();
            } else if (said[at] >= FIRST_STEP) {
                accepted++;
            }
            at += length;
        }
        waiting = 0;
        return accepted;
    }

    public int fault() {
        return faultAt;
    }

    public int size() {
        return sequents.count;
    }

    public int hypotheses(int a) throws IndexOutOfBoundsException {
        if (!sequents.has(a)) {
            throw new IndexOutOfBoundsException("there is no such sequent");
        }
        return sequents.hypothesesOf(a);
    }

    public int symbol(int a, int i, int k) throws IndexOutOfBoundsException {
        int place = sequents.placeOf(a, i, k);
        if (place == NONE) {
            throw new IndexOutOfBoundsException("there is no such symbol");
        }
        return rows.code[place];
    }

    public int typeSymbol(int a, int i, int k, int place) throws IndexOutOfBoundsException {
        int at = sequents.placeOf(a, i, k);
        if (at == NONE || place < 0 || place >= types.symbols[rows.type[at]]) {
            throw new IndexOutOfBoundsException("there is no such symbol of a type");
        }
        return types.codeAt(rows.type[at], place);
    }

    public void cut(int n) throws IllegalArgumentException {
        if (!sequents.canEndAt(n)) {
            throw new IllegalArgumentException("sequents can't be cut there");
        }
        types.shorten(sequents.typesThen[n]);
        entries.shorten(sequents.entryTypesThen[n], sequents.entryTermsThen[n]);
        sequents.shorten(n);
    }

    public void keep(int a, int n)
            throws IndexOutOfBoundsException, IllegalStateException, IllegalArgumentException {
        if (!sequents.has(a)) {
            throw new IndexOutOfBoundsException("there is no such sequent");
        }
        if (sequents.hypothesesOf(a) > 0) {
            throw new IllegalStateException("the sequent has hypotheses");
        }
        if (!sequents.canEndAt(n) || a < n) {
            throw new IllegalArgumentException("sequents can't be cut there");
        }
        int from = rows.start[sequents.first[a]];
        int to = rows.start[sequents.first[a + 1]];
        types.unmark();
        rows.markTypes(from, to);
        types.spreadMarks();
        types.shortenToMarked(sequents.typesThen[n]);
        entries.shorten(sequents.entryTypesThen[n], sequents.entryTermsThen[n]);
        sequents.shorten(n);
        // The row moves to a place that is not behind its old one, so it is read before it is lost.
        rows.copyRetyped(from, to);
        sequents.add();
    }

    /** The number of numbers of the entry that begins there, 0 if it is none or is not whole. */
    private int entryLength(int at) {
        int kind = said[at];
        if (kind < 0 || kind >= ENTRY_LENGTHS.length) {
            return 0;
        }
        int length = ENTRY_LENGTHS[kind];
        if (kind == TYPE_ENTRY && at + 1 < waiting && signature.hasConstructor(said[at + 1])) {
            length = 2 + signature.takes[said[at + 1]];
        }
        if (kind == TYPES_STEP && at + 2 < waiting && said[at + 2] >= 0 && said[at + 2] <= MAX_PUT_IN) {
            length = 3 + 2 * said[at + 2];
        }
        return length <= waiting - at ? length : 0;
    }

    private boolean accepts(int at) {
        int a = said[at + 1];
        int b = at + 2 < waiting ? said[at + 2] : NONE;
        int c = at + 3 < waiting ? said[at + 3] : NONE;
        switch (said[at]) {
            case 0: return entries.typeVariable(a);
            case 1: return entries.typeOf(a, b, c);
            case 2: return entries.freeVariable(a, b);
            case 3: return entries.constant(a, b);
            case 4: return entries.application(a, b);
            case 5: return entries.abstraction(a, b);
            case 6: return entries.boundVariable(a, b);
            case 10: return steps.reflexive(a);
            case 11: return steps.transitive(a, b);
            case 12: return steps.congruent(a, b);
            case 13: return steps.abstracted(a, b);
            case 14: return steps.reduced(a);
            case 15: return steps.assumed(a);
            case 16: return steps.replaced(a, b);
            case 17: return steps.equivalent(a, b);
            case 18: return steps.termPutIn(a, b, c);
            case 19: return steps.typesPutIn(a, said, at + 3, b);
            case 20: return steps.newConstant(a);
            case 21: return steps.newConstructor(a);
            case 22:
                if (!axioms.choose(a)) {
                    return false;
                }
                axioms.write(0, 0);
                return sequents.add();
            default: return false;
        }
    }

    private static int[] longer(int[] row) {
        return Arrays.copyOf(row, 2 * row.length);
    }

    /** What a row tells of a part, 0 where there is none. */
    private static int partOf(int[] row, int part) {
        return part == NONE ? 0 : row[part];
    }

    private static boolean isName(int n) {
        return n >= 0 && n <= MAX_NAME;
    }

    /**
     * The different types, each once, in the order in which they came, so that the latest go first
     * and two types are the same if their places are. Only types that count are ever made here:
     * their number is the one that the limit speaks of.
     */
    private static final class Types {
        private static final int BUCKET_BITS = 10;

        /** What typeSymbol() tells: -1 - n of a type variable n, or the constructor. */
        private int[] code = new int[START_LENGTH];
        private int[] left = new int[START_LENGTH];
        private int[] right = new int[START_LENGTH];
        private int[] symbols = new int[START_LENGTH];
        private int[] height = new int[START_LENGTH];
        /** The next type in the same bucket, an earlier one. */
        private int[] next = new int[START_LENGTH];
        /** NONE of a type that is not marked, else what it becomes. */
        private int[] image = new int[START_LENGTH];
        private final int[] heads = new int[1 << BUCKET_BITS];
        private int count = 0;

        Types() {
            Arrays.fill(heads, NONE);
            make(-1, NONE, NONE);
            make(TRUTHS, NONE, NONE);
        }

        /** The place of a type, there already or new; REFUSED if a limit forbids it. */
        int make(int c, int l, int r) {
            if (l == REFUSED || r == REFUSED) {
                return REFUSED;
            }
            int bucket = bucketOf(c, l, r);
            int found = find(bucket, c, l, r);
            return found != NONE ? found : append(bucket, c, l, r);
        }

        private int find(int bucket, int c, int l, int r) {
            int at = heads[bucket];
            for (int looked = 0; at != NONE && looked < count; looked++) {
                if (code[at] == c && left[at] == l && right[at] == r) {
                    return at;
                }
                at = next[at];
            }
            return NONE;
        }

        private int append(int bucket, int c, int l, int r) {
            int itsSymbols = 1 + partOf(symbols, l) + partOf(symbols, r);
            int itsHeight = 1 + Math.max(partOf(height, l), partOf(height, r));
            if (itsSymbols > MAX_TYPE_SYMBOLS || itsHeight > MAX_TYPE_HEIGHT || count >= MAX_TYPES) {
                return REFUSED;
            }
            if (count == code.length) {
                int length = 2 * count;
                code = Arrays.copyOf(code, length);
                left = Arrays.copyOf(left, length);
                right = Arrays.copyOf(right, length);
                symbols = Arrays.copyOf(symbols, length);
                height = Arrays.copyOf(height, length);
                next = Arrays.copyOf(next, length);
                image = Arrays.copyOf(image, length);
            }
            code[count] = c;
            left[count] = l;
            right[count] = r;
            symbols[count] = itsSymbols;
            height[count] = itsHeight;
            next[count] = heads[bucket];
            heads[bucket] = count;
            count++;
            return count - 1;
        }

        private static int bucketOf(int c, int l, int r) {
            int mixed = c * 0x9E3779B1 + l * 0x85EBCA6B + r * 0xC2B2AE35;
            mixed = (mixed ^ (mixed >>> 15)) * 0x27D4EB2F;
            return mixed >>> (32 - BUCKET_BITS);
        }

        void shorten(int n) {
            // The latest of all stands first in its bucket, so each one is the head when it goes.
            for (int at = count - 1; at >= n; at--) {
                heads[bucketOf(code[at], left[at], right[at])] = next[at];
            }
            count = Math.min(count, n);
        }

        boolean isFunction(int t) {
            return t >= 0 && code[t] == FUNCTIONS;
        }

        /** The type of what a function of that type answers; REFUSED if it is none. */
        int answerOf(int t) {
            return isFunction(t) ? right[t] : REFUSED;
        }

        int codeAt(int t, int place) {
            int at = t;
            int rest = place;
            for (int level = 0; rest > 0 && level < MAX_TYPE_HEIGHT; level++) {
                rest--;
                int l = left[at];
                if (rest < symbols[l]) {
                    at = l;
                } else {
                    rest -= symbols[l];
                    at = right[at];
                }
            }
            return code[at];
        }

        void unmark() {
            for (int at = 0; at < count; at++) {
                image[at] = NONE;
            }
        }

        void mark(int t) {
            image[t] = t;
        }

        /** Marks what the marked types take, too. */
        void spreadMarks() {
            for (int at = count - 1; at >= 0; at--) {
                if (image[at] != NONE && left[at] != NONE) {
                    mark(left[at]);
                }
                if (image[at] != NONE && right[at] != NONE) {
                    mark(right[at]);
                }
            }
        }

        int markedVariables() {
            int found = 0;
            for (int at = 0; at < count; at++) {
                if (image[at] != NONE && code[at] < 0) {
                    found++;
                }
            }
            return found;
        }

        /** The marked type variable with the lowest number from n on, NONE if there is none. */
        int lowestMarkedVariable(int n) {
            int found = NONE;
            for (int at = 0; at < count; at++) {
                boolean fits = image[at] != NONE && code[at] < 0 && -1 - code[at] >= n;
                if (fits && (found == NONE || code[at] > code[found])) {
                    found = at;
                }
            }
            return found;
        }

        /** Lets a marked type variable become a type. */
        void putIn(int n, int t) {
            int at = find(bucketOf(-1 - n, NONE, NONE), -1 - n, NONE, NONE);
            if (at != NONE && image[at] != NONE) {
                image[at] = t;
            }
        }

        /** Makes what the marked types become by what their variables become; false if one is refused. */
        boolean makeImages() {
            int last = count;
            for (int at = 0; at < last; at++) {
                if (image[at] != NONE && left[at] != NONE) {
                    // make() may lengthen the row of images, so it comes first.
                    int made = make(code[at], imageOf(left[at]), imageOf(right[at]));
                    if (made == REFUSED) {
                        return false;
                    }
                    image[at] = made;
                }
            }
            return true;
        }

        /** Shortens the row, but for the marked types: these close up, and are told by their images. */
        void shortenToMarked(int n) {
            int last = count;
            shorten(n);
            for (int at = n; at < last; at++) {
                if (image[at] != NONE) {
                    int made = make(code[at], imageOf(left[at]), imageOf(right[at]));
                    image[at] = made;
                }
            }
        }

        private int imageOf(int t) {
            return t == NONE ? NONE : image[t];
        }

        /** Whether a type becomes another one when types are put in for its variables. */
        boolean becomes(int own, int t) {
            unmark();
            return matches(own, t, 1);
        }

        private boolean matches(int own, int t, int level) {
            if (level > MAX_TYPE_HEIGHT) {
                return false;
            }
            if (code[own] < 0) {
                if (image[own] == NONE) {
                    image[own] = t;
                }
                return image[own] == t;
            }
            if (code[own] != code[t]) {
                return false;
            }
            return (left[own] == NONE || matches(left[own], left[t], level + 1))
                && (right[own] == NONE || matches(right[own], right[t], level + 1));
        }
    }

    /** The constructors, with the number of types that each takes, and the constants' own types. */
    private static final class Signature {
        private final int[] takes = new int[MAX_CONSTRUCTORS];
        private final int[] own = new int[MAX_CONSTANTS];
        private int constructors = 3;
        private int constants = 2;
        private int constructorsBefore = 3;
        private int constantsBefore = 2;

        Signature(Types types) {
            takes[FUNCTIONS] = 2;
            int fromA = types.make(FUNCTIONS, TYPE_A, TYPE_TRUTHS);
            own[0] = types.make(FUNCTIONS, TYPE_A, fromA);
            own[1] = types.make(FUNCTIONS, fromA, TYPE_A);
        }

        boolean hasConstructor(int c) {
            return c >= 0 && c < constructors;
        }

        boolean hasConstant(int c) {
            return c >= 0 && c < constants;
        }

        /** The number of a new constructor, NONE if there are too many. */
        int addConstructor(int itTakes) {
            if (constructors >= MAX_CONSTRUCTORS) {
                return NONE;
            }
            takes[constructors] = itTakes;
            constructors++;
            return constructors - 1;
        }

        /** The number of a new constant, NONE if there are too many. */
        int addConstant(int type) {
            if (constants >= MAX_CONSTANTS) {
                return NONE;
            }
            own[constants] = type;
            constants++;
            return constants - 1;
        }

        void remember() {
            constructorsBefore = constructors;
            constantsBefore = constants;
        }

        void undo() {
            constructors = constructorsBefore;
            constants = constantsBefore;
        }
    }

    /** The types and terms of entries; a term tells its parts by their numbers. */
    private static final class Entries {
        private final Types types;
        private final Signature signature;
        /** Where the types of entries stand among the different ones. */
        private int[] typeAt = new int[START_LENGTH];
        private int typeCount = 0;
        private int[] code = new int[START_LENGTH];
        private int[] type = new int[START_LENGTH];
        private int[] left = new int[START_LENGTH];
        private int[] right = new int[START_LENGTH];
        private int[] symbols = new int[START_LENGTH];
        private int[] height = new int[START_LENGTH];
        /** How many abstractions outside of it a term needs to be closed. */
        private int[] loose = new int[START_LENGTH];
        private int termCount = 0;
        /** What is still to be visited on the way through a term: one more than its height at most. */
        private final int[] path = new int[MAX_TERM_HEIGHT + 2];
        private final int[] binders = new int[MAX_TERM_HEIGHT + 2];

        Entries(Types types, Signature signature) {
            this.types = types;
            this.signature = signature;
        }

        void shorten(int typesLeft, int termsLeft) {
            typeCount = typesLeft;
            termCount = termsLeft;
        }

        boolean hasType(int a) {
            return a >= 0 && a < typeCount;
        }

        boolean hasTerm(int t) {
            return t >= 0 && t < termCount;
        }

        boolean isClosed(int t) {
            return hasTerm(t) && loose[t] == 0;
        }

        boolean isFree(int t) {
            return hasTerm(t) && code[t] >= 0 && code[t] % 4 == FREE;
        }

        boolean typeVariable(int n) {
            return isName(n) && addType(types.make(-1 - n, NONE, NONE));
        }

        boolean typeOf(int c, int a, int b) {
            int takes = signature.takes[c];
            if (takes > 0 && !hasType(a) || takes > 1 && !hasType(b)) {
                return false;
            }
            return addType(types.make(c, takes > 0 ? typeAt[a] : NONE, takes > 1 ? typeAt[b] : NONE));
        }

        boolean freeVariable(int n, int a) {
            return isName(n) && hasType(a) && addTerm(4 * n + FREE, typeAt[a], NONE, NONE);
        }

        boolean constant(int c, int a) {
            return signature.hasConstant(c) && hasType(a) && types.becomes(signature.own[c], typeAt[a])
                && addTerm(4 * c + CONSTANT, typeAt[a], NONE, NONE);
        }

        boolean application(int f, int x) {
            if (!hasTerm(f) || !hasTerm(x) || !types.isFunction(type[f])) {
                return false;
            }
            return types.left[type[f]] == type[x] && addTerm(APPLICATION, types.right[type[f]], f, x);
        }

        boolean abstraction(int a, int b) {
            return hasType(a) && hasTerm(b) && bindsType(b, typeAt[a])
                && addTerm(ABSTRACTION, types.make(FUNCTIONS, typeAt[a], type[b]), b, NONE);
        }

        boolean boundVariable(int i, int a) {
            return i >= 0 && i <= MAX_BOUND && hasType(a) && addTerm(4 * i + BOUND, typeAt[a], NONE, NONE);
        }

        private boolean addType(int t) {
            if (t < 0 || typeCount >= MAX_ENTRY_TYPES) {
                return false;
            }
            if (typeCount == typeAt.length) {
                typeAt = longer(typeAt);
            }
            typeAt[typeCount] = t;
            typeCount++;
            return true;
        }

        private boolean addTerm(int c, int t, int l, int r) {
            int itsSymbols = 1 + partOf(symbols, l) + partOf(symbols, r);
            int itsHeight = 1 + Math.max(partOf(height, l), partOf(height, r));
            if (t < 0 || termCount >= MAX_ENTRY_TERMS
                    || itsSymbols > MAX_TERM_SYMBOLS || itsHeight > MAX_TERM_HEIGHT) {
                return false;
            }
            if (termCount == code.length) {
                growTerms();
            }
            code[termCount] = c;
            type[termCount] = t;
            left[termCount] = l;
            right[termCount] = r;
            symbols[termCount] = itsSymbols;
            height[termCount] = itsHeight;
            loose[termCount] = looseOf(c, l, r);
            termCount++;
            return true;
        }

        private void growTerms() {
            code = longer(code);
            type = longer(type);
            left = longer(left);
            right = longer(right);
            symbols = longer(symbols);
            height = longer(height);
            loose = longer(loose);
        }

        private int looseOf(int c, int l, int r) {
            if (c == APPLICATION) {
                return Math.max(loose[l], loose[r]);
            }
            if (c == ABSTRACTION) {
                return Math.max(0, loose[l] - 1);
            }
            return c % 4 == BOUND ? c / 4 + 1 : 0;
        }

        /** Whether what an abstraction over that body binds is of that type. */
        private boolean bindsType(int body, int t) {
            int open = 1;
            path[0] = body;
            binders[0] = 0;
            for (int seen = 0; open > 0 && seen < MAX_TERM_SYMBOLS; seen++) {
                open--;
                int at = path[open];
                int outside = binders[open];
                if (code[at] == 4 * outside + BOUND && type[at] != t) {
                    return false;
                }
                // A part that binds nothing so far outside need not be gone through.
                boolean goesOn = loose[at] > outside;
                if (goesOn && code[at] == APPLICATION) {
                    path[open] = right[at];
                    binders[open] = outside;
                    path[open + 1] = left[at];
                    binders[open + 1] = outside;
                    open += 2;
                } else if (goesOn && code[at] == ABSTRACTION) {
                    path[open] = left[at];
                    binders[open] = outside + 1;
                    open++;
                }
            }
            return true;
        }

        /** Writes a term out, symbol after symbol. */
        void writeTo(Rows rows, int t) {
            int open = 1;
            path[0] = t;
            for (int seen = 0; open > 0 && seen < MAX_TERM_SYMBOLS && !rows.bad; seen++) {
                open--;
                int at = path[open];
                rows.write(code[at], type[at]);
                if (code[at] == APPLICATION) {
                    path[open] = right[at];
                    open++;
                }
                if (code[at] == APPLICATION || code[at] == ABSTRACTION) {
                    path[open] = left[at];
                    open++;
                }
            }
        }
    }

    /**
     * Terms written out in prefix order, row behind row; the last row is open, it is being written.
     * A row that cannot be, or that is made of a refused type, makes all bad until it is shortened.
     */
    private static final class Rows {
        private final Types types;
        private int[] code = new int[START_LENGTH];
        private int[] type = new int[START_LENGTH];
        private int top = 0;
        /** Where the rows start; the open one, too. */
        private int[] start = new int[START_LENGTH];
        private int count = 0;
        private boolean bad = false;
        private final int[] path = new int[MAX_TERM_HEIGHT + 1];

        Rows(Types types) {
            this.types = types;
        }

        void shorten(int n) {
            count = n;
            top = start[n];
            bad = false;
        }

        void write(int c, int t) {
            if (t < 0 || top - start[count] >= MAX_TERM_SYMBOLS) {
                bad = true;
            }
            if (bad) {
                return;
            }
            if (top == code.length) {
                code = longer(code);
                type = longer(type);
            }
            code[top] = c;
            type[top] = t;
            top++;
        }

        /** Writes what stands before the two sides of an equation of things of that type. */
        void writeEquals(int t) {
            int halfway = types.make(FUNCTIONS, t, TYPE_TRUTHS);
            write(APPLICATION, TYPE_TRUTHS);
            write(APPLICATION, halfway);
            write(EQUALITY, types.make(FUNCTIONS, t, halfway));
        }

        /** Writes what stands before the term that a constant of that type is applied to. */
        void writeApplied(int c, int t) {
            write(APPLICATION, types.answerOf(t));
            write(c, t);
        }

        void copy(int from, int to) {
            for (int at = from; at < to && !bad; at++) {
                write(code[at], type[at]);
            }
        }

        /** A copy with the images of the types. */
        void copyRetyped(int from, int to) {
            for (int at = from; at < to && !bad; at++) {
                write(code[at], types.image[type[at]]);
            }
        }

        /**
         * A copy that trades a free variable and what an abstraction just outside binds: that for
         * the variable (binding), or the variable for that.
         */
        void copyTrading(int from, int to, boolean binding, int c, int t) {
            int open = 0;
            int binders = 0;
            for (int at = from; at < to && !bad; at++) {
                int here = code[at];
                int outer = 4 * binders + BOUND;
                if (binding && here == c && type[at] == t) {
                    write(outer, t);
                } else if (!binding && here == outer) {
                    write(c, t);
                } else {
                    write(here, type[at]);
                }
                if (here == APPLICATION) {
                    path[open] = binders;
                    open++;
                } else if (here == ABSTRACTION) {
                    binders++;
                } else if (open > 0) {
                    open--;
                    binders = path[open];
                }
            }
        }

        void drop() {
            top = start[count];
        }

        void close() {
            if (bad || !isLow(start[count], top) || top > MAX_SEQUENT_SYMBOLS) {
                bad = true;
                return;
            }
            if (count + 1 == start.length) {
                start = longer(start);
            }
            count++;
            start[count] = top;
        }

        private boolean isLow(int from, int to) {
            int open = 0;
            int level = 1;
            for (int at = from; at < to; at++) {
                if (level > MAX_TERM_HEIGHT) {
                    return false;
                }
                if (code[at] == APPLICATION) {
                    level++;
                    path[open] = level;
                    open++;
                } else if (code[at] == ABSTRACTION) {
                    level++;
                } else if (open > 0) {
                    open--;
                    level = path[open];
                }
            }
            return true;
        }

        boolean same(int from, int to, int otherFrom, int otherTo) {
            if (to - from != otherTo - otherFrom) {
                return false;
            }
            int apart = otherFrom - from;
            for (int at = from; at < to; at++) {
                if (code[at] != code[at + apart] || type[at] != type[at + apart]) {
                    return false;
                }
            }
            return true;
        }

        boolean sameRows(int row, int other) {
            return same(start[row], start[row + 1], start[other], start[other + 1]);
        }

        int endOf(int from) {
            int open = 1;
            int at = from;
            while (open > 0 && at < top) {
                if (code[at] == APPLICATION) {
                    open++;
                } else if (code[at] != ABSTRACTION) {
                    open--;
                }
                at++;
            }
            return at;
        }

        /** The sides of an equation; null if a row is none. */
        Equation equationAt(int row) {
            int from = start[row];
            int to = start[row + 1];
            if (to - from < 5 || code[from] != APPLICATION || code[from + 1] != APPLICATION
                    || code[from + 2] != EQUALITY) {
                return null;
            }
            return new Equation(from + 3, endOf(from + 3), to, type[from + 3]);
        }

        boolean hasSymbol(int from, int to, int c, int t) {
            for (int at = from; at < to; at++) {
                if (code[at] == c && type[at] == t) {
                    return true;
                }
            }
            return false;
        }

        boolean hasFree(int from, int to) {
            for (int at = from; at < to; at++) {
                if (code[at] >= 0 && code[at] % 4 == FREE) {
                    return true;
                }
            }
            return false;
        }

        void markTypes(int from, int to) {
            for (int at = from; at < to; at++) {
                types.mark(type[at]);
            }
        }
    }

    /** Where the sides of an equation stand among the rows, and of which type they are. */
    private static final class Equation {
        private final int left;
        private final int right;
        private final int end;
        private final int type;

        Equation(int left, int right, int end, int type) {
            this.left = left;
            this.right = right;
            this.end = end;
            this.type = type;
        }
    }

    /**
     * The sequents: each is some rows, the hypotheses and then the conclusion. The rows behind the
     * last sequent's are the draft of the next one.
     */
    private static final class Sequents {
        private final Types types;
        private final Entries entries;
        private final Rows rows;
        private int count = 0;
        /** Sequents below this number cannot go: the last of them is of a definition. */
        private int firm = 0;
        /** The first row of each sequent, and of the draft. */
        private int[] first = new int[START_LENGTH];
        /** At n: how many there were when the sequents came to be n. */
        private int[] typesThen = new int[START_LENGTH];
        private int[] entryTypesThen = new int[START_LENGTH];
        private int[] entryTermsThen = new int[START_LENGTH];

        Sequents(Types types, Entries entries, Rows rows) {
            this.types = types;
            this.entries = entries;
            this.rows = rows;
            typesThen[0] = types.count;
        }

        boolean has(int a) {
            return a >= 0 && a < count;
        }

        int conclusionOf(int a) {
            return first[a + 1] - 1;
        }

        int hypothesesOf(int a) {
            return conclusionOf(a) - first[a];
        }

        /** Where a symbol stands among the rows, NONE if there is none such. */
        int placeOf(int a, int i, int k) {
            if (!has(a) || i < -1 || i >= hypothesesOf(a)) {
                return NONE;
            }
            int row = i == -1 ? conclusionOf(a) : first[a] + i;
            int length = rows.start[row + 1] - rows.start[row];
            return k < 0 || k >= length ? NONE : rows.start[row] + k;
        }

        boolean canEndAt(int n) {
            return n >= firm && n <= count;
        }

        void shorten(int n) {
            count = n;
            rows.shorten(first[n]);
        }

        /** Joins the hypotheses of a sequent to the draft's, but for those that are like a row. */
        void join(int a, int but) {
            for (int row = first[a]; row < conclusionOf(a) && !rows.bad; row++) {
                if (but == NONE || !rows.sameRows(row, but)) {
                    rows.copy(rows.start[row], rows.start[row + 1]);
                    addHypothesis();
                }
            }
        }

        /** Makes the open row the draft's next hypothesis, if it is not among them. */
        void addHypothesis() {
            if (rows.bad) {
                return;
            }
            for (int row = first[count]; row < rows.count; row++) {
                if (rows.same(rows.start[row], rows.start[row + 1], rows.start[rows.count], rows.top)) {
                    rows.drop();
                    return;
                }
            }
            rows.close();
            if (rows.count - first[count] > MAX_HYPOTHESES) {
                rows.bad = true;
            }
        }

        /** Makes the open row the draft's conclusion, and the draft a sequent; false if it cannot be. */
        boolean add() {
            rows.close();
            if (rows.bad || count >= MAX_SEQUENTS) {
                return false;
            }
            if (count + 1 == first.length) {
                first = longer(first);
                typesThen = longer(typesThen);
                entryTypesThen = longer(entryTypesThen);
                entryTermsThen = longer(entryTermsThen);
            }
            count++;
            first[count] = rows.count;
            typesThen[count] = types.count;
            entryTypesThen[count] = entries.typeCount;
            entryTermsThen[count] = entries.termCount;
            return true;
        }

        boolean addFirm() {
            if (!add()) {
                return false;
            }
            firm = count;
            return true;
        }
    }

    /** The steps, each true if it made its sequents; what it leaves behind if not is for the caller to undo. */
    private static final class Steps {
        private final Types types;
        private final Signature signature;
        private final Entries entries;
        private final Rows rows;
        private final Sequents sequents;

        Steps(Types types, Signature signature, Entries entries, Rows rows, Sequents sequents) {
            this.types = types;
            this.signature = signature;
            this.entries = entries;
            this.rows = rows;
            this.sequents = sequents;
        }

        boolean reflexive(int t) {
            if (!entries.isClosed(t)) {
                return false;
            }
            rows.writeEquals(entries.type[t]);
            entries.writeTo(rows, t);
            entries.writeTo(rows, t);
            return sequents.add();
        }

        boolean transitive(int a, int b) {
            Equation p = equationOf(a);
            Equation q = equationOf(b);
            if (p == null || q == null || !rows.same(p.right, p.end, q.left, q.right)) {
                return false;
            }
            sequents.join(a, NONE);
            sequents.join(b, NONE);
            rows.writeEquals(p.type);
            rows.copy(p.left, p.right);
            rows.copy(q.right, q.end);
            return sequents.add();
        }

        boolean congruent(int a, int b) {
            Equation f = equationOf(a);
            Equation x = equationOf(b);
            if (f == null || x == null || !types.isFunction(f.type) || types.left[f.type] != x.type) {
                return false;
            }
            int answer = types.right[f.type];
            sequents.join(a, NONE);
            sequents.join(b, NONE);
            rows.writeEquals(answer);
            rows.write(APPLICATION, answer);
            rows.copy(f.left, f.right);
            rows.copy(x.left, x.right);
            rows.write(APPLICATION, answer);
            rows.copy(f.right, f.end);
            rows.copy(x.right, x.end);
            return sequents.add();
        }

        boolean abstracted(int v, int a) {
            Equation p = equationOf(a);
            if (p == null || !entries.isFree(v)) {
                return false;
            }
            int c = entries.code[v];
            int t = entries.type[v];
            int hypothesesFrom = rows.start[sequents.first[a]];
            int hypothesesTo = rows.start[sequents.conclusionOf(a)];
            if (rows.hasSymbol(hypothesesFrom, hypothesesTo, c, t)) {
                return false;
            }
            int made = types.make(FUNCTIONS, t, p.type);
            sequents.join(a, NONE);
            rows.writeEquals(made);
            rows.write(ABSTRACTION, made);
            rows.copyTrading(p.left, p.right, true, c, t);
            rows.write(ABSTRACTION, made);
            rows.copyTrading(p.right, p.end, true, c, t);
            return sequents.add();
        }

        boolean reduced(int t) {
            if (!entries.isClosed(t) || entries.code[t] != APPLICATION) {
                return false;
            }
            int f = entries.left[t];
            int x = entries.right[t];
            if (entries.code[f] != ABSTRACTION || !entries.isFree(x)) {
                return false;
            }
            rows.writeEquals(entries.type[t]);
            int from = rows.top;
            entries.writeTo(rows, t);
            if (rows.bad) {
                return false;
            }
            // In what was just written, the body stands behind two symbols and before the last.
            rows.copyTrading(from + 2, rows.top - 1, false, entries.code[x], entries.type[x]);
            return sequents.add();
        }

        boolean assumed(int t) {
            if (!entries.isClosed(t) || entries.type[t] != TYPE_TRUTHS) {
                return false;
            }
            entries.writeTo(rows, t);
            sequents.addHypothesis();
            entries.writeTo(rows, t);
            return sequents.add();
        }

        boolean replaced(int a, int b) {
            Equation p = equationOf(a);
            if (p == null || !sequents.has(b)) {
                return false;
            }
            int row = sequents.conclusionOf(b);
            if (!rows.same(p.left, p.right, rows.start[row], rows.start[row + 1])) {
                return false;
            }
            sequents.join(a, NONE);
            sequents.join(b, NONE);
            rows.copy(p.right, p.end);
            return sequents.add();
        }

        boolean equivalent(int a, int b) {
            if (!sequents.has(a) || !sequents.has(b)) {
                return false;
            }
            int p = sequents.conclusionOf(a);
            int q = sequents.conclusionOf(b);
            sequents.join(a, q);
            sequents.join(b, p);
            rows.writeEquals(TYPE_TRUTHS);
            rows.copy(rows.start[p], rows.start[p + 1]);
            rows.copy(rows.start[q], rows.start[q + 1]);
            return sequents.add();
        }

        boolean termPutIn(int a, int v, int t) {
            if (!sequents.has(a) || !entries.isFree(v) || !entries.isClosed(t)
                    || entries.type[v] != entries.type[t]) {
                return false;
            }
            int conclusion = sequents.conclusionOf(a);
            for (int row = sequents.first[a]; row < conclusion && !rows.bad; row++) {
                copyWith(row, v, t);
                sequents.addHypothesis();
            }
            copyWith(conclusion, v, t);
            return sequents.add();
        }

        private void copyWith(int row, int v, int t) {
            int to = rows.start[row + 1];
            for (int at = rows.start[row]; at < to && !rows.bad; at++) {
                if (rows.code[at] == entries.code[v] && rows.type[at] == entries.type[v]) {
                    entries.writeTo(rows, t);
                } else {
                    rows.write(rows.code[at], rows.type[at]);
                }
            }
        }

        /** Pairs of numbers of type variables and types were said from a place on. */
        boolean typesPutIn(int a, int[] said, int from, int pairs) {
            if (!sequents.has(a)) {
                return false;
            }
            int conclusion = sequents.conclusionOf(a);
            types.unmark();
            rows.markTypes(rows.start[sequents.first[a]], rows.start[conclusion + 1]);
            types.spreadMarks();
            for (int pair = 0; pair < pairs; pair++) {
                int n = said[from + 2 * pair];
                int t = said[from + 2 * pair + 1];
                if (!isName(n) || !entries.hasType(t) || isAmongPairs(said, from, pair, n)) {
                    return false;
                }
                types.putIn(n, entries.typeAt[t]);
            }
            if (!types.makeImages()) {
                return false;
            }
            for (int row = sequents.first[a]; row < conclusion && !rows.bad; row++) {
                rows.copyRetyped(rows.start[row], rows.start[row + 1]);
                sequents.addHypothesis();
            }
            rows.copyRetyped(rows.start[conclusion], rows.start[conclusion + 1]);
            return sequents.add();
        }

        private static boolean isAmongPairs(int[] said, int from, int pairs, int n) {
            for (int pair = 0; pair < pairs; pair++) {
                if (said[from + 2 * pair] == n) {
                    return true;
                }
            }
            return false;
        }

        boolean newConstant(int t) {
            if (!entries.isClosed(t)) {
                return false;
            }
            int type = entries.type[t];
            int c = signature.addConstant(type);
            if (c == NONE) {
                return false;
            }
            rows.writeEquals(type);
            rows.write(4 * c + CONSTANT, type);
            int from = rows.top;
            entries.writeTo(rows, t);
            if (rows.bad || rows.hasFree(from, rows.top) || !hasVariablesOf(from, rows.top, type)) {
                return false;
            }
            return sequents.addFirm();
        }

        /** Whether all type variables in a term are in that type, its own. */
        private boolean hasVariablesOf(int from, int to, int type) {
            types.unmark();
            types.mark(type);
            types.spreadMarks();
            int inType = types.markedVariables();
            types.unmark();
            rows.markTypes(from, to);
            types.spreadMarks();
            return types.markedVariables() == inType;
        }

        boolean newConstructor(int a) {
            if (!sequents.has(a) || sequents.hypothesesOf(a) > 0) {
                return false;
            }
            int from = rows.start[sequents.conclusionOf(a)];
            if (rows.code[from] != APPLICATION) {
                return false;
            }
            int x = rows.endOf(from + 1);
            if (rows.hasFree(from + 1, x)) {
                return false;
            }
            int made = newType(from + 1, x);
            int old = rows.type[x];
            int there = types.make(FUNCTIONS, old, made);
            int back = types.make(FUNCTIONS, made, old);
            int to = signature.addConstant(there);
            int fro = signature.addConstant(back);
            if (there < 0 || back < 0 || to == NONE || fro == NONE) {
                return false;
            }
            rows.writeEquals(made);
            rows.writeApplied(4 * to + CONSTANT, there);
            rows.writeApplied(4 * fro + CONSTANT, back);
            rows.write(FREE_0, made);
            rows.write(FREE_0, made);
            if (!sequents.add()) {
                return false;
            }
            rows.writeEquals(TYPE_TRUTHS);
            rows.write(APPLICATION, TYPE_TRUTHS);
            rows.copy(from + 1, x);
            rows.write(FREE_0, old);
            rows.writeEquals(old);
            rows.writeApplied(4 * fro + CONSTANT, back);
            rows.writeApplied(4 * to + CONSTANT, there);
            rows.write(FREE_0, old);
            rows.write(FREE_0, old);
            return sequents.addFirm();
        }

        /** A new constructor of the type variables in a term; REFUSED if they are too many, or it is. */
        private int newType(int from, int to) {
            types.unmark();
            rows.markTypes(from, to);
            types.spreadMarks();
            int takes = types.markedVariables();
            int constructor = takes > 2 ? NONE : signature.addConstructor(takes);
            if (constructor == NONE) {
                return REFUSED;
            }
            int lower = types.lowestMarkedVariable(0);
            int higher = takes < 2 ? NONE : types.lowestMarkedVariable(-types.code[lower]);
            return types.make(constructor, lower, higher);
        }

        /** The conclusion of a sequent as an equation; null if there is none such. */
        private Equation equationOf(int a) {
            return sequents.has(a) ? rows.equationAt(sequents.conclusionOf(a)) : null;
        }
    }

    /**
     * The axioms, as formulas in prefix order: a connective stands before its two parts, where
     * APPLY is of a function and what it is applied to, and LAMBDA, ALL and EXISTS are of a name
     * and what it is bound in. Behind each formula stands another one, T.
     */
    private static final class Axioms {
        private static final int X = 0;
        private static final int Y = 1;
        private static final int F = 2;
        private static final int Q = 3;
        private static final int CHOOSE = 4;
        private static final int NAMES = 5;
        private static final int APPLY = 10;
        private static final int LAMBDA = 11;
        private static final int EQUAL = 12;
        private static final int AND = 13;
        private static final int IMPLIES = 14;
        private static final int ALL = 15;
        private static final int EXISTS = 16;

        private static final int[] EXTENSION = {
            EQUAL, LAMBDA, X, APPLY, F, X, F,
            EQUAL, LAMBDA, Q, Q, LAMBDA, Q, Q};
        private static final int[] SELECTION = {
            IMPLIES, APPLY, F, X, APPLY, F, APPLY, CHOOSE, F,
            EQUAL, LAMBDA, Q, Q, LAMBDA, Q, Q};
        /** not p is written as it is meant: p ==> ! q. q. */
        private static final int[] INFINITY = {
            EXISTS, F, AND,
            ALL, X, ALL, Y, IMPLIES, EQUAL, APPLY, F, X, APPLY, F, Y, EQUAL, X, Y,
            EXISTS, Y, ALL, X, IMPLIES, EQUAL, Y, APPLY, F, X, ALL, Q, Q,
            EQUAL, LAMBDA, Q, Q, LAMBDA, Q, Q};
        private static final int T_LENGTH = 7;
        /** What the names are where nothing binds them; Y and Q are always bound. */
        private static final int[] UNBOUND = {FREE_0, FREE_0, FREE_1, FREE_0, CHOICE};

        private final Types types;
        private final Rows rows;
        private int[] formula = EXTENSION;
        private final int[] typeOf = new int[NAMES];
        /** How many abstractions stand outside of the one that binds a name; NONE if nothing does. */
        private final int[] boundAt = new int[NAMES];

        Axioms(Types types, Rows rows) {
            this.types = types;
            this.rows = rows;
        }

        /** Makes an axiom the one to be written, and the types of its names; false if there is none such. */
        boolean choose(int k) {
            if (k < 0 || k > 2) {
                return false;
            }
            Arrays.fill(boundAt, NONE);
            typeOf[Q] = TYPE_TRUTHS;
            typeOf[X] = k == 2 ? types.make(THINGS, NONE, NONE) : TYPE_A;
            typeOf[Y] = typeOf[X];
            if (k == 0) {
                formula = EXTENSION;
                typeOf[F] = types.make(FUNCTIONS, TYPE_A, types.make(-2, NONE, NONE));
            } else if (k == 1) {
                formula = SELECTION;
                typeOf[F] = types.make(FUNCTIONS, TYPE_A, TYPE_TRUTHS);
                typeOf[CHOOSE] = types.make(FUNCTIONS, typeOf[F], TYPE_A);
            } else {
                formula = INFINITY;
                typeOf[F] = types.make(FUNCTIONS, typeOf[X], typeOf[X]);
            }
            return true;
        }

        /**
         * Writes the formula that begins there. All that it is made of begins behind it, so that
         * the row's length is a bound of the depth.
         */
        private void write(int at, int binders) {
            if (at >= formula.length) {
                return;
            }
            int first = at + 1;
            int second = endOf(first);
            switch (formula[at]) {
                case APPLY:
                    rows.write(APPLICATION, typeAt(at));
                    write(first, binders);
                    write(second, binders);
                    break;
                case LAMBDA:
                    writeBinding(first, second, typeAt(at), binders);
                    break;
                case EQUAL:
                    rows.writeEquals(typeAt(first));
                    write(first, binders);
                    write(second, binders);
                    break;
                case AND:
                    writeAnd(first, second, binders);
                    break;
                case IMPLIES:
                    rows.writeEquals(TYPE_TRUTHS);
                    writeAnd(first, second, binders);
                    write(first, binders);
                    break;
                case ALL:
                    writeAll(first, second, binders);
                    break;
                case EXISTS:
                    writeExists(first, second, binders);
                    break;
                default:
                    writeName(formula[at], binders);
            }
        }

        private void writeName(int name, int binders) {
            if (boundAt[name] == NONE) {
                rows.write(UNBOUND[name], typeOf[name]);
            } else {
                rows.write(4 * (binders - 1 - boundAt[name]) + BOUND, typeOf[name]);
            }
        }

        /** \v. p, of that type. */
        private void writeBinding(int v, int p, int type, int binders) {
            rows.write(ABSTRACTION, type);
            boundAt[formula[v]] = binders;
            write(p, binders + 1);
        }

        /** (\v. p) = (\v. T). */
        private void writeAll(int v, int p, int binders) {
            int side = types.make(FUNCTIONS, typeAt(v), TYPE_TRUTHS);
            rows.writeEquals(side);
            writeBinding(v, p, side, binders);
            rows.write(ABSTRACTION, side);
            write(formula.length - T_LENGTH, binders + 1);
        }

        /** (\v. p) (choice (\v. p)). */
        private void writeExists(int v, int p, int binders) {
            int property = types.make(FUNCTIONS, typeAt(v), TYPE_TRUTHS);
            rows.write(APPLICATION, TYPE_TRUTHS);
            writeBinding(v, p, property, binders);
            rows.writeApplied(CHOICE, types.make(FUNCTIONS, property, typeAt(v)));
            writeBinding(v, p, property, binders);
        }

        /** (\f. f p q) = (\f. f T T). */
        private void writeAnd(int p, int q, int binders) {
            int ofOne = types.make(FUNCTIONS, TYPE_TRUTHS, TYPE_TRUTHS);
            int ofTwo = types.make(FUNCTIONS, TYPE_TRUTHS, ofOne);
            int side = types.make(FUNCTIONS, ofTwo, TYPE_TRUTHS);
            rows.writeEquals(side);
            rows.write(ABSTRACTION, side);
            rows.write(APPLICATION, TYPE_TRUTHS);
            rows.writeApplied(BOUND, ofTwo);
            write(p, binders + 1);
            write(q, binders + 1);
            rows.write(ABSTRACTION, side);
            rows.write(APPLICATION, TYPE_TRUTHS);
            rows.writeApplied(BOUND, ofTwo);
            write(formula.length - T_LENGTH, binders + 1);
            write(formula.length - T_LENGTH, binders + 1);
        }

        private int typeAt(int at) {
            if (at >= formula.length) {
                return REFUSED;
            }
            if (formula[at] < NAMES) {
                return typeOf[formula[at]];
            }
            if (formula[at] == APPLY) {
                return types.answerOf(typeAt(at + 1));
            }
            if (formula[at] == LAMBDA) {
                return types.make(FUNCTIONS, typeAt(at + 1), typeAt(at + 2));
            }
            return TYPE_TRUTHS;
        }

        private int endOf(int from) {
            int open = 1;
            int at = from;
            while (open > 0 && at < formula.length) {
                open += formula[at] < NAMES ? -1 : 1;
                at++;
            }
            return at;
        }
    }
}
