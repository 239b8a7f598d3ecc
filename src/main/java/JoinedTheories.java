import java.util.Arrays;

/**
 * A solver for conjunctions of literals over integers, in a combination of uninterpreted functions and difference
 * constraints. The document tells what each method answers; see README.md for the shape of the program.
 */
public final class JoinedTheories {
    public static final int NONE = -2000000001, UNKNOWN = -2000000002, OUTSIDE = -2000000003, STATE = -2000000004, FULL = -2000000005, GREAT = -2000000006;

    private static final long LIMIT = 2000000000L;
    private static final int NAMES = 5;
    private static final int TERMS = 10;
    private static final int LITERALS = 10;
    private static final int PAGE = 40;
    private static final int CALLS_OF_EITHER = 12;
    private static final int FACTOR = 1000;

    private static final int EQUALITY = 0;
    private static final int INEQUALITY = 1;
    private static final int BOUND = 2;

    private static final int NAME = 0;
    private static final int WITH_F = 1;
    private static final int WITH_G = 2;

    /** The pairs of names in their order: pair p has the names LOWER[p] and UPPER[p]. */
    private static final int PAIRS = 10;
    private static final int[] LOWER = {0, 0, 0, 0, 1, 1, 1, 2, 2, 3};
    private static final int[] UPPER = {1, 2, 3, 4, 2, 3, 4, 3, 4, 4};

    private final int[] page = new int[PAGE];
    private int pageSize;
    private final Reader reader = new Reader();
    private final Terms terms = new Terms();
    private final Terms formerTerms = new Terms();
    private final Literals literals = new Literals();
    private final Exchanger exchanger = new Exchanger(terms, literals);
    private final Solver solver = new Solver(terms, literals);
    private final PairFinder pairFinder = new PairFinder(solver);
    private int literalsAdded;
    private int literalsRemoved;
    private int callsOfEither;

    /** What was found out about the present literals; each is computed at most once for them. */
    private boolean exchangeKnown;
    private boolean solvableKnown;
    private boolean solvable;
    private boolean pairsKnown;

    public JoinedTheories() {
    }

    public int letter(int code) {
        if (code < 32 || code > 126) {
            return OUTSIDE;
        }
        if (pageSize < 0 || pageSize >= PAGE) {
            return FULL;
        }
        page[pageSize] = code;
        pageSize++;
        return pageSize;
    }

    public int blank() {
        int before = pageSize;
        pageSize = 0;
        return before;
    }

    public int fault() {
        return reader.firstFault(page, pageSize);
    }

    public int add() {
        if (reader.firstFault(page, pageSize) < pageSize || !reader.isComplete()) {
            return STATE;
        }
        if (literals.size() >= LITERALS) {
            return FULL;
        }
        int termsBefore = terms.size();
        if (!reader.buildIn(terms)) {
            terms.shrinkTo(termsBefore);
            return FULL;
        }
        literals.append(reader.kind(), reader.left(), reader.right(), reader.number());
        pageSize = 0;
        literalsAdded++;
        forgetResults();
        return literals.size() - 1;
    }

    public int drop(int literal) {
        if (!literals.has(literal)) {
            return UNKNOWN;
        }
        literals.removeAt(literal);
        numberTermsAnew();
        literalsRemoved++;
        forgetResults();
        return literals.size();
    }

    public int scale(int times) {
        if (times < -FACTOR || times > FACTOR) {
            return OUTSIDE;
        }
        for (int k = 0; k < literals.size(); k++) {
            if (isGreat((long) literals.numberOf(k) * times)) {
                return GREAT;
            }
        }
        int changed = 0;
        for (int k = 0; k < literals.size(); k++) {
            int scaled = literals.numberOf(k) * times;
            if (scaled != literals.numberOf(k)) {
                literals.setNumber(k, scaled);
                changed++;
            }
        }
        forgetResults();
        return changed;
    }

    public int literal(int literal, int what) {
        if (!literals.has(literal)) {
            return UNKNOWN;
        }
        switch (what) {
            case 0:
                return literals.kindOf(literal);
            case 1:
                return literals.leftOf(literal);
            case 2:
                return literals.rightOf(literal);
            case 3:
                return literals.numberOf(literal);
            default:
                return OUTSIDE;
        }
    }

    public int term(int term, int what) {
        if (!terms.has(term)) {
            return UNKNOWN;
        }
        switch (what) {
            case 0:
                return terms.kindOf(term);
            case 1:
                return terms.firstOf(term);
            case 2:
                return terms.secondOf(term);
            case 3:
                return terms.lengthOf(term);
            case 4:
                ensureExchanged();
                return exchanger.smallestSame(term);
            case 5:
                return literals.howManyHave(term);
            default:
                return OUTSIDE;
        }
    }

    public int exchange(int what) {
        if (what < 0 || what > 2) {
            return OUTSIDE;
        }
        ensureExchanged();
        switch (what) {
            case 0:
                return exchanger.hasConflict() ? 1 : 0;
            case 1:
                return exchanger.rounds();
            default:
                return exchanger.classes();
        }
    }

    public int far(int s, int t) {
        if (!terms.has(s) || !terms.has(t)) {
            return UNKNOWN;
        }
        ensureExchanged();
        if (exchanger.hasConflict()) {
            return STATE;
        }
        return asAnswer(exchanger.distance(s, t));
    }

    public int holds() {
        return isSolvable() ? 1 : 0;
    }

    public int apart(int s, int t) {
        if (!terms.has(s) || !terms.has(t)) {
            return UNKNOWN;
        }
        if (!isSolvable()) {
            return STATE;
        }
        solver.load(literals.all());
        solver.aimAt(s, t);
        return solver.hasSolution() ? asAnswer(solver.greatest()) : STATE;
    }

    public int implied(int s, int t, int sort) {
        if (!terms.has(s) || !terms.has(t)) {
            return UNKNOWN;
        }
        if (sort < 0 || sort > 2) {
            return OUTSIDE;
        }
        if (!isSolvable()) {
            return STATE;
        }
        solver.load(literals.all());
        if (sort == 0) {
            solver.demandDifferent(s, t);
        } else if (sort == 1) {
            solver.demandEqual(s, t);
        } else {
            solver.demandAtMost(t, s, -1);
        }
        return solver.hasSolution() ? 0 : 1;
    }

    public int why() {
        if (isSolvable()) {
            return STATE;
        }
        int kept = literals.all();
        for (int k = literals.size() - 1; k >= 0; k--) {
            int without = kept & ~(1 << k);
            solver.load(without);
            if (!solver.hasSolution()) {
                kept = without;
            }
        }
        return kept;
    }

    public int either(int what) {
        if (what < 0 || what > 1) {
            return OUTSIDE;
        }
        if (callsOfEither >= CALLS_OF_EITHER || !isSolvable()) {
            return STATE;
        }
        if (!pairsKnown) {
            pairFinder.find(literals.all());
            pairsKnown = true;
        }
        callsOfEither++;
        return what == 0 ? pairFinder.first() : pairFinder.second();
    }

    public int count(int what) {
        switch (what) {
            case 0:
                return literals.size();
            case 1:
                return terms.size();
            case 2:
                return pageSize;
            case 3:
                return literalsAdded;
            case 4:
                return literalsRemoved;
            case 5:
                return callsOfEither;
            default:
                return OUTSIDE;
        }
    }

    public long digest() {
        long h = 1609;
        for (int k = 0; k < literals.size(); k++) {
            for (int what = 0; what <= 3; what++) {
                h = 31 * h + literal(k, what);
            }
        }
        for (int t = 0; t < terms.size(); t++) {
            for (int what = 0; what <= 5; what++) {
                h = 31 * h + term(t, what);
            }
        }
        for (int what = 0; what <= 2; what++) {
            h = 31 * h + exchange(what);
        }
        h = 31 * h + holds();
        for (int i = 0; i < pageSize && i < PAGE; i++) {
            h = 31 * h + page[i];
        }
        for (int what = 0; what <= 5; what++) {
            h = 31 * h + count(what);
        }
        return h;
    }

    private void forgetResults() {
        exchangeKnown = false;
        solvableKnown = false;
        pairsKnown = false;
    }

    private void ensureExchanged() {
        if (!exchangeKnown) {
            exchanger.run();
            exchangeKnown = true;
        }
    }

    private boolean isSolvable() {
        if (!solvableKnown) {
            solver.load(literals.all());
            solvable = solver.hasSolution();
            solvableKnown = true;
        }
        return solvable;
    }

    private static boolean isGreat(long number) {
        return number > LIMIT || number < -LIMIT;
    }

    private static int asAnswer(long difference) {
        if (difference == Distances.NO_PATH) {
            return NONE;
        }
        return isGreat(difference) ? GREAT : (int) difference;
    }

    private void numberTermsAnew() {
        formerTerms.copyFrom(terms);
        terms.shrinkTo(NAMES);
        for (int k = 0; k < literals.size(); k++) {
            int left = numberAnew(literals.leftOf(k), 0);
            int right = numberAnew(literals.rightOf(k), 0);
            literals.setTerms(k, left, right);
        }
    }

    /** The new number of a former term; the arguments are numbered first, as the document wants it. */
    private int numberAnew(int former, int depth) {
        if (former < NAMES || depth > TERMS) {
            return former;
        }
        int first = numberAnew(formerTerms.firstOf(former), depth + 1);
        int second = NONE;
        if (formerTerms.kindOf(former) == WITH_G) {
            second = numberAnew(formerTerms.secondOf(former), depth + 1);
        }
        return terms.numberFor(formerTerms.kindOf(former), first, second);
    }

    /** All terms by their numbers. Arguments always have smaller numbers than the term in which they stand. */
    private static final class Terms {
        private final int[] kinds = new int[TERMS];
        private final int[] firsts = new int[TERMS];
        private final int[] seconds = new int[TERMS];
        private final int[] lengths = new int[TERMS];
        private int size = NAMES;

        Terms() {
            for (int t = 0; t < NAMES; t++) {
                kinds[t] = NAME;
                firsts[t] = NONE;
                seconds[t] = NONE;
                lengths[t] = 1;
            }
        }

        int size() {
            return size;
        }

        boolean has(int t) {
            return t >= 0 && t < size && t < TERMS;
        }

        int kindOf(int t) {
            return has(t) ? kinds[t] : NAME;
        }

        int firstOf(int t) {
            return has(t) ? firsts[t] : NONE;
        }

        int secondOf(int t) {
            return has(t) ? seconds[t] : NONE;
        }

        int lengthOf(int t) {
            return has(t) ? lengths[t] : 0;
        }

        boolean haveSameFunction(int s, int t) {
            return has(s) && has(t) && kinds[s] != NAME && kinds[s] == kinds[t];
        }

        /** The number of the term with these parts, which becomes the last one if it is new; NONE if there is no room. */
        int numberFor(int kind, int first, int second) {
            for (int t = NAMES; t < size && t < TERMS; t++) {
                if (kinds[t] == kind && firsts[t] == first && seconds[t] == second) {
                    return t;
                }
            }
            if (size < NAMES || size >= TERMS) {
                return NONE;
            }
            kinds[size] = kind;
            firsts[size] = first;
            seconds[size] = second;
            lengths[size] = kind == WITH_F ? lengthOf(first) + 3 : lengthOf(first) + lengthOf(second) + 4;
            size++;
            return size - 1;
        }

        void shrinkTo(int smaller) {
            if (smaller >= NAMES && smaller < size) {
                size = smaller;
            }
        }

        void copyFrom(Terms other) {
            for (int t = 0; t < TERMS; t++) {
                kinds[t] = other.kinds[t];
                firsts[t] = other.firsts[t];
                seconds[t] = other.seconds[t];
                lengths[t] = other.lengths[t];
            }
            size = other.size;
        }
    }

    private static final class Literals {
        private final int[] kinds = new int[LITERALS];
        private final int[] lefts = new int[LITERALS];
        private final int[] rights = new int[LITERALS];
        private final int[] numbers = new int[LITERALS];
        private int size;

        int size() {
            return size;
        }

        /** The mask of all literals. */
        int all() {
            return (1 << size) - 1;
        }

        boolean has(int k) {
            return k >= 0 && k < size && k < LITERALS;
        }

        int kindOf(int k) {
            return has(k) ? kinds[k] : NONE;
        }

        int leftOf(int k) {
            return has(k) ? lefts[k] : NONE;
        }

        int rightOf(int k) {
            return has(k) ? rights[k] : NONE;
        }

        int numberOf(int k) {
            return has(k) ? numbers[k] : 0;
        }

        int howManyHave(int t) {
            int found = 0;
            for (int k = 0; k < size && k < LITERALS; k++) {
                if (lefts[k] == t || rights[k] == t) {
                    found++;
                }
            }
            return found;
        }

        void append(int kind, int left, int right, int number) {
            if (size < 0 || size >= LITERALS) {
                return;
            }
            kinds[size] = kind;
            lefts[size] = left;
            rights[size] = right;
            numbers[size] = number;
            size++;
        }

        void removeAt(int k) {
            if (!has(k)) {
                return;
            }
            for (int i = k; i + 1 < size && i + 1 < LITERALS; i++) {
                kinds[i] = kinds[i + 1];
                lefts[i] = lefts[i + 1];
                rights[i] = rights[i + 1];
                numbers[i] = numbers[i + 1];
            }
            size--;
        }

        void setTerms(int k, int left, int right) {
            if (has(k)) {
                lefts[k] = left;
                rights[k] = right;
            }
        }

        void setNumber(int k, int number) {
            if (has(k)) {
                numbers[k] = number;
            }
        }
    }

    /** Reads a page character by character, and writes down its terms with the function after its arguments. */
    private static final class Reader {
        private static final int TERM_BEGINS = 0, BRACKET_OPENS = 1, TERM_ENDED = 2, NUMBER_BEGINS = 3, NUMBER_GOES_ON = 4;
        private static final int AFTER_F = 0, AFTER_FIRST_OF_G = 1, AFTER_SECOND_OF_G = 2;
        private static final int SYMBOL_F = NAMES, SYMBOL_G = NAMES + 1;
        private static final int NO_KIND = -1;
        private static final int GREATEST_NUMBER = 999999;

        private int state;
        private final int[] brackets = new int[PAGE];
        private int depth;
        private final int[] symbols = new int[PAGE];
        private int symbolCount;
        private int kind;
        private boolean negative;
        private int digits;
        private final int[] built = new int[PAGE];
        private int builtCount;

        int firstFault(int[] page, int pageSize) {
            state = TERM_BEGINS;
            depth = 0;
            symbolCount = 0;
            kind = NO_KIND;
            negative = false;
            digits = 0;
            for (int i = 0; i < pageSize && i < page.length; i++) {
                if (!goesOnWith(page[i])) {
                    return i;
                }
            }
            return pageSize;
        }

        /** Whether what was read last, without a fault, is a whole literal. */
        boolean isComplete() {
            boolean termsEnded = state == TERM_ENDED && depth == 0 && kind != NO_KIND;
            return termsEnded || state == NUMBER_GOES_ON;
        }

        int kind() {
            return kind;
        }

        int number() {
            return negative ? -digits : digits;
        }

        int left() {
            return builtCount == 2 ? built[0] : NONE;
        }

        int right() {
            return builtCount == 2 ? built[1] : NONE;
        }

        private boolean goesOnWith(int code) {
            switch (state) {
                case TERM_BEGINS:
                    return beginsTerm(code);
                case BRACKET_OPENS:
                    state = TERM_BEGINS;
                    return code == '(';
                case TERM_ENDED:
                    return depth > 0 ? goesOnInBrackets(code) : goesOnOutside(code);
                default:
                    return goesOnInNumber(code);
            }
        }

        private boolean beginsTerm(int code) {
            if (code >= 'a' && code <= 'e') {
                state = TERM_ENDED;
                return write(code - 'a');
            }
            if (code != 'f' && code != 'g' || depth < 0 || depth >= PAGE) {
                return false;
            }
            brackets[depth] = code == 'f' ? AFTER_F : AFTER_FIRST_OF_G;
            depth++;
            state = BRACKET_OPENS;
            return true;
        }

        private boolean goesOnInBrackets(int code) {
            if (depth < 1 || depth > PAGE) {
                return false;
            }
            int bracket = brackets[depth - 1];
            if (bracket == AFTER_FIRST_OF_G) {
                brackets[depth - 1] = AFTER_SECOND_OF_G;
                state = TERM_BEGINS;
                return code == ',';
            }
            depth--;
            return code == ')' && write(bracket == AFTER_F ? SYMBOL_F : SYMBOL_G);
        }

        private boolean goesOnOutside(int code) {
            if (kind == NO_KIND) {
                kind = kindOfSign(code);
                state = TERM_BEGINS;
                return kind != NO_KIND;
            }
            negative = code == '-';
            state = NUMBER_BEGINS;
            return kind == BOUND && (code == '+' || code == '-');
        }

        private static int kindOfSign(int code) {
            if (code == '=') {
                return EQUALITY;
            }
            if (code == '#') {
                return INEQUALITY;
            }
            return code == '<' ? BOUND : NO_KIND;
        }

        private boolean goesOnInNumber(int code) {
            int least = state == NUMBER_BEGINS ? '1' : '0';
            if (code < least || code > '9') {
                return false;
            }
            digits = 10 * digits + (code - '0');
            state = NUMBER_GOES_ON;
            return digits <= GREATEST_NUMBER;
        }

        private boolean write(int symbol) {
            if (symbolCount < 0 || symbolCount >= PAGE) {
                return false;
            }
            symbols[symbolCount] = symbol;
            symbolCount++;
            return true;
        }

        /** Numbers the terms of the literal that was read; false if they have no room. */
        boolean buildIn(Terms terms) {
            builtCount = 0;
            for (int i = 0; i < symbolCount && i < PAGE; i++) {
                int number = symbols[i];
                if (number == SYMBOL_F) {
                    number = terms.numberFor(WITH_F, takeBuilt(), NONE);
                } else if (number == SYMBOL_G) {
                    int second = takeBuilt();
                    number = terms.numberFor(WITH_G, takeBuilt(), second);
                }
                if (number == NONE || builtCount < 0 || builtCount >= PAGE) {
                    return false;
                }
                built[builtCount] = number;
                builtCount++;
            }
            return builtCount == 2;
        }

        private int takeBuilt() {
            if (builtCount < 1 || builtCount > PAGE) {
                return NONE;
            }
            builtCount--;
            return built[builtCount];
        }
    }

    /**
     * The greatest differences that some bounds allow: the value of s is at most the value of t plus between(s, t).
     * The table is complete after each bound, so that every consequence of the bounds can be read off.
     */
    private static final class Distances {
        static final long NO_PATH = 1000000000000000L;

        private final long[] cells = new long[TERMS * TERMS];

        void clear() {
            Arrays.fill(cells, NO_PATH);
            for (int t = 0; t < TERMS; t++) {
                cells[t * TERMS + t] = 0;
            }
        }

        void copyFrom(Distances other) {
            System.arraycopy(other.cells, 0, cells, 0, TERMS * TERMS);
        }

        long between(int s, int t) {
            return s >= 0 && s < TERMS && t >= 0 && t < TERMS ? cells[s * TERMS + t] : NO_PATH;
        }

        boolean areEqual(int s, int t) {
            return between(s, t) == 0 && between(t, s) == 0;
        }

        boolean equate(int s, int t) {
            return bound(s, t, 0) && bound(t, s, 0);
        }

        /** Lets the value of s be at most that of t plus a number; false if this contradicts the bounds before. */
        boolean bound(int s, int t, long number) {
            if (s < 0 || s >= TERMS || t < 0 || t >= TERMS || cells[s * TERMS + t] <= number) {
                return true;
            }
            long back = cells[t * TERMS + s];
            if (back != NO_PATH && back + number < 0) {
                return false;
            }
            for (int i = 0; i < TERMS; i++) {
                long toStart = cells[i * TERMS + s];
                for (int j = 0; j < TERMS && toStart != NO_PATH; j++) {
                    long toEnd = cells[t * TERMS + j];
                    if (toEnd != NO_PATH && toStart + number + toEnd < cells[i * TERMS + j]) {
                        cells[i * TERMS + j] = toStart + number + toEnd;
                    }
                }
            }
            return true;
        }
    }

    private static final class Exchanger {
        private final Terms terms;
        private final Literals literals;
        private final Distances distances = new Distances();
        /** The smallest term that is the same, for each term. */
        private final int[] smallest = new int[TERMS];
        private int rounds;
        private boolean conflict;

        Exchanger(Terms terms, Literals literals) {
            this.terms = terms;
            this.literals = literals;
        }

        int rounds() {
            return rounds;
        }

        boolean hasConflict() {
            return conflict;
        }

        long distance(int s, int t) {
            return distances.between(s, t);
        }

        int smallestSame(int t) {
            return t >= 0 && t < TERMS ? smallest[t] : NONE;
        }

        int classes() {
            int found = 0;
            for (int t = 0; t < terms.size() && t < TERMS; t++) {
                if (smallest[t] == t) {
                    found++;
                }
            }
            return found;
        }

        void run() {
            joinByEqualities();
            boolean another = true;
            // Each round but the last one joins two classes at least, so there are no more rounds than terms.
            for (int round = 1; round <= TERMS && another; round++) {
                rounds = round;
                joinByCongruence();
                if (!measure()) {
                    conflict = true;
                    return;
                }
                another = joinByDistances();
            }
            conflict = violatesInequality();
        }

        private void joinByEqualities() {
            for (int t = 0; t < TERMS; t++) {
                smallest[t] = t;
            }
            for (int k = 0; k < literals.size(); k++) {
                if (literals.kindOf(k) == EQUALITY) {
                    join(literals.leftOf(k), literals.rightOf(k));
                }
            }
        }

        private void joinByCongruence() {
            boolean changed = true;
            for (int pass = 0; pass < TERMS && changed; pass++) {
                changed = false;
                for (int s = NAMES; s < terms.size(); s++) {
                    for (int t = s + 1; t < terms.size(); t++) {
                        if (haveSameArguments(s, t) && join(s, t)) {
                            changed = true;
                        }
                    }
                }
            }
        }

        private boolean haveSameArguments(int s, int t) {
            if (!terms.haveSameFunction(s, t)) {
                return false;
            }
            return smallestSame(terms.firstOf(s)) == smallestSame(terms.firstOf(t))
                && smallestSame(terms.secondOf(s)) == smallestSame(terms.secondOf(t));
        }

        /** Determines the distances; false if a path from a term to itself has a negative sum. */
        private boolean measure() {
            distances.clear();
            for (int t = 0; t < TERMS; t++) {
                if (!distances.equate(t, smallest[t])) {
                    return false;
                }
            }
            for (int k = 0; k < literals.size(); k++) {
                if (literals.kindOf(k) == BOUND
                    && !distances.bound(literals.leftOf(k), literals.rightOf(k), literals.numberOf(k))) {
                    return false;
                }
            }
            return true;
        }

        private boolean joinByDistances() {
            boolean changed = false;
            for (int s = 0; s < terms.size(); s++) {
                for (int t = s + 1; t < terms.size(); t++) {
                    if (distances.areEqual(s, t) && join(s, t)) {
                        changed = true;
                    }
                }
            }
            return changed;
        }

        private boolean violatesInequality() {
            for (int k = 0; k < literals.size(); k++) {
                if (literals.kindOf(k) == INEQUALITY
                    && smallestSame(literals.leftOf(k)) == smallestSame(literals.rightOf(k))) {
                    return true;
                }
            }
            return false;
        }

        /** Makes one class of two; false if they were one already. */
        private boolean join(int s, int t) {
            int one = smallestSame(s);
            int other = smallestSame(t);
            if (one == other) {
                return false;
            }
            int less = Math.min(one, other);
            for (int i = 0; i < TERMS; i++) {
                if (smallest[i] == one || smallest[i] == other) {
                    smallest[i] = less;
                }
            }
            return true;
        }
    }

    /**
     * One of these has to be true: the first pair has different values, the second pair has, or the result pair has
     * equal values. An inequality is a clause with a first pair only.
     */
    private static final class Clause {
        static final int FIRST_LESS = 0, FIRST_GREATER = 1, SECOND_LESS = 2, SECOND_GREATER = 3, RESULTS_EQUAL = 4;
        static final int OPTIONS = 5;
        static final int MET = -1;

        private int firstLeft;
        private int firstRight;
        private int secondLeft;
        private int secondRight;
        private boolean hasResult;
        private int resultLeft;
        private int resultRight;

        void setInequality(int s, int t) {
            firstLeft = s;
            firstRight = t;
            clearSecond();
            hasResult = false;
        }

        void setCongruence(Terms terms, int s, int t) {
            firstLeft = terms.firstOf(s);
            firstRight = terms.firstOf(t);
            clearSecond();
            if (terms.kindOf(s) == WITH_G) {
                secondLeft = terms.secondOf(s);
                secondRight = terms.secondOf(t);
            }
            hasResult = true;
            resultLeft = s;
            resultRight = t;
        }

        /** A pair of one term never has different values, so it stands for no pair. */
        private void clearSecond() {
            secondLeft = 0;
            secondRight = 0;
        }

        /** The ways to meet the clause that agree with the distances, as a mask of options; MET if it is met anyway. */
        int openOptions(Distances d) {
            long firstUp = d.between(firstLeft, firstRight);
            long firstDown = d.between(firstRight, firstLeft);
            long secondUp = d.between(secondLeft, secondRight);
            long secondDown = d.between(secondRight, secondLeft);
            if (firstUp < 0 || firstDown < 0 || secondUp < 0 || secondDown < 0) {
                return MET;
            }
            int open = firstDown > 0 ? 1 << FIRST_LESS : 0;
            open |= firstUp > 0 ? 1 << FIRST_GREATER : 0;
            open |= secondDown > 0 ? 1 << SECOND_LESS : 0;
            open |= secondUp > 0 ? 1 << SECOND_GREATER : 0;
            if (!hasResult) {
                return open;
            }
            long resultUp = d.between(resultLeft, resultRight);
            long resultDown = d.between(resultRight, resultLeft);
            if (resultUp == 0 && resultDown == 0) {
                return MET;
            }
            return resultUp >= 0 && resultDown >= 0 ? open | 1 << RESULTS_EQUAL : open;
        }

        /** Takes one of the ways to meet the clause; false if it contradicts the distances. */
        boolean take(Distances d, int option) {
            switch (option) {
                case FIRST_LESS:
                    return d.bound(firstLeft, firstRight, -1);
                case FIRST_GREATER:
                    return d.bound(firstRight, firstLeft, -1);
                case SECOND_LESS:
                    return d.bound(secondLeft, secondRight, -1);
                case SECOND_GREATER:
                    return d.bound(secondRight, secondLeft, -1);
                default:
                    return d.bound(resultLeft, resultRight, 0) && d.bound(resultRight, resultLeft, 0);
            }
        }
    }

    /**
     * Looks for solutions by cases: where no clause is open any more, all that the distances allow are solutions.
     * It is loaded with some literals, may get demands beside them, and is then asked once.
     */
    private static final class Solver {
        /** Each literal may be an inequality, two may be demanded, and five terms with a function make ten pairs. */
        private static final int CLAUSES = LITERALS + 2 + 10;
        /** Each level meets one more clause for good. */
        private static final int LEVELS = CLAUSES + 1;
        private static final int NO_CLAUSE = -1;

        private final Terms terms;
        private final Literals literals;
        private final Clause[] clauses = new Clause[CLAUSES];
        private int clauseCount;
        private final Distances[] levels = new Distances[LEVELS];
        private final Distances best = new Distances();
        private boolean contradictory;
        private boolean found;
        private int goalLeft;
        private int goalRight;

        Solver(Terms terms, Literals literals) {
            this.terms = terms;
            this.literals = literals;
            for (int k = 0; k < CLAUSES; k++) {
                clauses[k] = new Clause();
            }
            for (int level = 0; level < LEVELS; level++) {
                levels[level] = new Distances();
            }
        }

        void load(int mask) {
            clauseCount = 0;
            contradictory = false;
            found = false;
            aimAt(0, 0);
            levels[0].clear();
            for (int k = 0; k < literals.size(); k++) {
                if ((mask >> k & 1) == 1) {
                    demandLiteral(k);
                }
            }
            for (int s = NAMES; s < terms.size(); s++) {
                for (int t = s + 1; t < terms.size(); t++) {
                    if (terms.haveSameFunction(s, t) && clauseCount < CLAUSES) {
                        clauses[clauseCount].setCongruence(terms, s, t);
                        clauseCount++;
                    }
                }
            }
        }

        private void demandLiteral(int k) {
            int left = literals.leftOf(k);
            int right = literals.rightOf(k);
            if (literals.kindOf(k) == EQUALITY) {
                demandEqual(left, right);
            } else if (literals.kindOf(k) == INEQUALITY) {
                demandDifferent(left, right);
            } else {
                demandAtMost(left, right, literals.numberOf(k));
            }
        }

        void demandEqual(int s, int t) {
            if (!levels[0].equate(s, t)) {
                contradictory = true;
            }
        }

        void demandAtMost(int s, int t, int number) {
            if (!levels[0].bound(s, t, number)) {
                contradictory = true;
            }
        }

        void demandDifferent(int s, int t) {
            if (clauseCount >= 0 && clauseCount < CLAUSES) {
                clauses[clauseCount].setInequality(s, t);
                clauseCount++;
            }
        }

        /** Has the solutions with the greatest difference of s and t looked for; with a term and itself, any ones. */
        void aimAt(int s, int t) {
            goalLeft = s;
            goalRight = t;
        }

        boolean hasSolution() {
            if (!contradictory) {
                search(0);
            }
            return found;
        }

        long greatest() {
            return best.between(goalLeft, goalRight);
        }

        /** Whether the names of a pair have equal values in all solutions near the one that was found. */
        boolean foundEqual(int s, int t) {
            return best.areEqual(s, t);
        }

        private void search(int level) {
            if (level < 0 || level >= LEVELS) {
                return;
            }
            Distances here = levels[level];
            if (!demandsMore(here) || !takeForcedOptions(here)) {
                return;
            }
            int split = narrowestClause(here);
            if (split < 0 || split >= CLAUSES) {
                best.copyFrom(here);
                found = true;
                return;
            }
            int open = clauses[split].openOptions(here);
            for (int option = 0; option < Clause.OPTIONS && level + 1 < LEVELS; option++) {
                if ((open >> option & 1) == 1) {
                    levels[level + 1].copyFrom(here);
                    if (clauses[split].take(levels[level + 1], option)) {
                        search(level + 1);
                    }
                }
            }
        }

        /** Demands a greater difference than that of the best solutions so far; false if there can be none. */
        private boolean demandsMore(Distances here) {
            if (!found) {
                return true;
            }
            return greatest() != Distances.NO_PATH && here.bound(goalRight, goalLeft, -greatest() - 1);
        }

        /** Meets the clauses that can be met in one way only; false if one cannot be met. */
        private boolean takeForcedOptions(Distances here) {
            boolean changed = true;
            for (int pass = 0; pass <= CLAUSES && changed; pass++) {
                changed = false;
                for (int k = 0; k < clauseCount && k < CLAUSES; k++) {
                    int open = clauses[k].openOptions(here);
                    if (open == 0) {
                        return false;
                    }
                    for (int option = 0; option < Clause.OPTIONS; option++) {
                        if (open == 1 << option && clauses[k].take(here, option)) {
                            changed = true;
                        }
                    }
                }
            }
            return true;
        }

        /** The clause that is not met and has the fewest options; NO_CLAUSE if all are met. */
        private int narrowestClause(Distances here) {
            int narrowest = NO_CLAUSE;
            int fewest = Clause.OPTIONS + 1;
            for (int k = 0; k < clauseCount && k < CLAUSES; k++) {
                int open = clauses[k].openOptions(here);
                if (open != Clause.MET && Integer.bitCount(open) < fewest) {
                    fewest = Integer.bitCount(open);
                    narrowest = k;
                }
            }
            return narrowest;
        }
    }

    /** Finds the first two pairs of names of which one has equal values in each solution. */
    private static final class PairFinder {
        private static final int ALWAYS_EQUAL = -1;

        private final Solver solver;
        /** For each pair the pairs that were equal when it was different, as a mask, or ALWAYS_EQUAL. */
        private final int[] tied = new int[PAIRS];
        private int first = NONE;
        private int second = NONE;

        PairFinder(Solver solver) {
            this.solver = solver;
        }

        int first() {
            return first;
        }

        int second() {
            return second;
        }

        void find(int mask) {
            first = NONE;
            second = NONE;
            for (int p = 0; p < PAIRS; p++) {
                tied[p] = pairsTiedWith(p, mask);
            }
            for (int p = 0; p < PAIRS && first == NONE; p++) {
                for (int q = p + 1; q < PAIRS && first == NONE; q++) {
                    if (areTied(p, q) && oneIsEqual(p, q, mask)) {
                        first = asAnswerOf(p);
                        second = asAnswerOf(q);
                    }
                }
            }
        }

        private int pairsTiedWith(int p, int mask) {
            solver.load(mask);
            demandDifferentNames(p);
            if (!solver.hasSolution()) {
                return ALWAYS_EQUAL;
            }
            int equal = 0;
            for (int q = 0; q < PAIRS; q++) {
                if (solver.foundEqual(LOWER[q], UPPER[q])) {
                    equal |= 1 << q;
                }
            }
            return equal;
        }

        /** Solutions in which both pairs are different may be known already; then the search for one is saved. */
        private boolean areTied(int p, int q) {
            if (tied[p] == ALWAYS_EQUAL || tied[q] == ALWAYS_EQUAL) {
                return false;
            }
            return (tied[p] >> q & 1) == 1 && (tied[q] >> p & 1) == 1;
        }

        private boolean oneIsEqual(int p, int q, int mask) {
            solver.load(mask);
            demandDifferentNames(p);
            demandDifferentNames(q);
            return !solver.hasSolution();
        }

        private void demandDifferentNames(int p) {
            if (p >= 0 && p < PAIRS) {
                solver.demandDifferent(LOWER[p], UPPER[p]);
            }
        }

        private static int asAnswerOf(int p) {
            return p >= 0 && p < PAIRS ? 10 * LOWER[p] + UPPER[p] : NONE;
        }
    }
}
