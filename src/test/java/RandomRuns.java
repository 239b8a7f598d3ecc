import java.util.ArrayList;
import java.util.LinkedHashMap;
import java.util.List;
import java.util.Map;

/**
 * Compares the class with a plain reference on runs of calls that a seeded generator makes. The reference keeps the
 * literals as texts and finds solutions by going through all orders of the terms, equal values included.
 */
public final class RandomRuns {
    private static final int NONE = -2000000001, STATE = -2000000004, FULL = -2000000005, GREAT = -2000000006;
    private static final long FAR = Long.MAX_VALUE / 8;

    private static int wrong = 0;
    private static long seed = 1;

    private static int pick(int n) {
        seed = seed * 6364136223846793005L + 1442695040888963407L;
        return (int) ((seed >>> 33) % n);
    }

    private static void due(int run, List<String> texts, String call, long got, long want) {
        if (got != want) {
            wrong++;
            if (wrong <= 50) {
                System.out.println("run " + run + " " + texts + ": " + call + " answered " + got + ", due is " + want);
            }
        }
    }

    /** Literals as texts, with all that follows from them by the document's words. */
    private static final class Reference {
        final List<String> lefts = new ArrayList<>();
        final List<String> rights = new ArrayList<>();
        final List<Character> signs = new ArrayList<>();
        final List<Long> numbers = new ArrayList<>();
        List<String> terms = new ArrayList<>();
        boolean conflict;
        int rounds;
        boolean[][] same;
        long[][] far;

        boolean found;
        long[][] greatest;
        List<Integer> equalMasks = new ArrayList<>();
        boolean[][][] always;

        static List<String> parts(String term) {
            List<String> parts = new ArrayList<>();
            if (term.length() == 1) {
                return parts;
            }
            int depth = 0;
            int from = 2;
            for (int i = 2; i < term.length(); i++) {
                char c = term.charAt(i);
                if (depth == 0 && (c == ',' || i == term.length() - 1)) {
                    parts.add(term.substring(from, i));
                    from = i + 1;
                }
                depth += c == '(' ? 1 : c == ')' ? -1 : 0;
            }
            return parts;
        }

        static void number(Map<String, Integer> map, String term) {
            for (String part : parts(term)) {
                number(map, part);
            }
            map.putIfAbsent(term, map.size());
        }

        void renumber() {
            Map<String, Integer> map = new LinkedHashMap<>();
            for (String name : new String[] {"a", "b", "c", "d", "e"}) {
                number(map, name);
            }
            for (int k = 0; k < lefts.size(); k++) {
                number(map, lefts.get(k));
                number(map, rights.get(k));
            }
            terms = new ArrayList<>(map.keySet());
        }

        void append(String text) {
            int at = 0;
            while ("=#<".indexOf(text.charAt(at)) < 0) {
                at++;
            }
            String right = text.substring(at + 1);
            long number = 0;
            int sign = Math.max(right.indexOf('+'), right.indexOf('-'));
            if (sign >= 0) {
                number = Long.parseLong(right.substring(sign + 1)) * (right.charAt(sign) == '-' ? -1 : 1);
                right = right.substring(0, sign);
            }
            lefts.add(text.substring(0, at));
            rights.add(right);
            signs.add(text.charAt(at));
            numbers.add(number);
            renumber();
        }

        void removeAt(int k) {
            lefts.remove(k);
            rights.remove(k);
            signs.remove(k);
            numbers.remove(k);
            renumber();
        }

        int left(int k) {
            return terms.indexOf(lefts.get(k));
        }

        int right(int k) {
            return terms.indexOf(rights.get(k));
        }

        boolean congruent(int s, int t, boolean[][] equal) {
            List<String> one = parts(terms.get(s));
            List<String> other = parts(terms.get(t));
            if (one.isEmpty() || one.size() != other.size()) {
                return false;
            }
            for (int i = 0; i < one.size(); i++) {
                if (!equal[terms.indexOf(one.get(i))][terms.indexOf(other.get(i))]) {
                    return false;
                }
            }
            return true;
        }

        static boolean close(boolean[][] relation) {
            boolean changed = false;
            int n = relation.length;
            for (int k = 0; k < n; k++) {
                for (int i = 0; i < n; i++) {
                    for (int j = 0; j < n; j++) {
                        if (relation[i][k] && relation[k][j] && !relation[i][j]) {
                            relation[i][j] = true;
                            changed = true;
                        }
                    }
                }
            }
            return changed;
        }

        /** The smallest sums of paths; null if there is a negative circle. */
        static long[][] paths(long[][] steps) {
            int n = steps.length;
            long[][] sums = new long[n][n];
            for (int from = 0; from < n; from++) {
                for (int to = 0; to < n; to++) {
                    sums[from][to] = from == to ? 0 : FAR;
                }
                for (int round = 0; round <= n; round++) {
                    boolean changed = false;
                    for (int u = 0; u < n; u++) {
                        for (int v = 0; v < n; v++) {
                            if (sums[from][u] < FAR && steps[u][v] < FAR && sums[from][u] + steps[u][v] < sums[from][v]) {
                                sums[from][v] = sums[from][u] + steps[u][v];
                                changed = true;
                            }
                        }
                    }
                    if (changed && round == n) {
                        return null;
                    }
                    if (!changed) {
                        break;
                    }
                }
            }
            return sums;
        }

        long[][] steps(int mask, boolean equalities) {
            int n = terms.size();
            long[][] steps = new long[n][n];
            for (long[] row : steps) {
                java.util.Arrays.fill(row, FAR);
            }
            for (int k = 0; k < lefts.size(); k++) {
                if ((mask >> k & 1) == 0) {
                    continue;
                }
                int l = left(k);
                int r = right(k);
                if (signs.get(k) == '<') {
                    steps[l][r] = Math.min(steps[l][r], numbers.get(k));
                } else if (signs.get(k) == '=' && equalities) {
                    steps[l][r] = Math.min(steps[l][r], 0);
                    steps[r][l] = Math.min(steps[r][l], 0);
                }
            }
            return steps;
        }

        void runExchange() {
            int n = terms.size();
            same = new boolean[n][n];
            conflict = false;
            rounds = 0;
            for (int t = 0; t < n; t++) {
                same[t][t] = true;
            }
            for (int k = 0; k < lefts.size(); k++) {
                if (signs.get(k) == '=') {
                    same[left(k)][right(k)] = true;
                    same[right(k)][left(k)] = true;
                }
            }
            close(same);
            while (true) {
                rounds++;
                boolean again = true;
                while (again) {
                    again = false;
                    for (int s = 0; s < n; s++) {
                        for (int t = 0; t < n; t++) {
                            if (!same[s][t] && terms.get(s).charAt(0) == terms.get(t).charAt(0) && congruent(s, t, same)) {
                                same[s][t] = true;
                                again = true;
                            }
                        }
                    }
                    again |= close(same);
                }
                long[][] steps = steps(-1, false);
                for (int s = 0; s < n; s++) {
                    for (int t = 0; t < n; t++) {
                        if (same[s][t]) {
                            steps[s][t] = Math.min(steps[s][t], 0);
                        }
                    }
                }
                far = paths(steps);
                if (far == null) {
                    conflict = true;
                    return;
                }
                boolean joined = false;
                for (int s = 0; s < n; s++) {
                    for (int t = 0; t < n; t++) {
                        if (!same[s][t] && far[s][t] == 0 && far[t][s] == 0) {
                            same[s][t] = true;
                            joined = true;
                        }
                    }
                }
                if (!joined) {
                    break;
                }
                close(same);
            }
            for (int k = 0; k < lefts.size(); k++) {
                conflict |= signs.get(k) == '#' && same[left(k)][right(k)];
            }
        }

        int classes() {
            int classes = 0;
            for (int t = 0; t < terms.size(); t++) {
                classes += smallest(t) == t ? 1 : 0;
            }
            return classes;
        }

        int smallest(int t) {
            int s = 0;
            while (!same[s][t]) {
                s++;
            }
            return s;
        }

        /** Goes through all orders of the terms that the literals of the mask allow, and collects what is true in them. */
        void solve(int mask) {
            int n = terms.size();
            found = false;
            greatest = new long[n][n];
            for (long[] row : greatest) {
                java.util.Arrays.fill(row, -FAR);
            }
            always = new boolean[3][n][n];
            for (boolean[][] table : always) {
                for (boolean[] row : table) {
                    java.util.Arrays.fill(row, true);
                }
            }
            equalMasks = new ArrayList<>();
            long[][] base = paths(steps(mask, true));
            if (base != null) {
                place(0, new int[n], 0, base, mask);
            }
        }

        /** Ranks are 0 to ranks-1 for the terms before t; t gets one of them, or a new one between them. */
        private void place(int t, int[] rank, int ranks, long[][] base, int mask) {
            int n = terms.size();
            if (t > 0 && !allowed(t, rank, base)) {
                return;
            }
            if (t == n) {
                leaf(rank, base, mask);
                return;
            }
            for (int r = 0; r < ranks; r++) {
                rank[t] = r;
                place(t + 1, rank, ranks, base, mask);
            }
            for (int gap = 0; gap <= ranks; gap++) {
                int[] shifted = rank.clone();
                for (int i = 0; i < t; i++) {
                    shifted[i] += shifted[i] >= gap ? 1 : 0;
                }
                shifted[t] = gap;
                place(t + 1, shifted, ranks + 1, base, mask);
            }
        }

        private boolean allowed(int placed, int[] rank, long[][] base) {
            int s = placed - 1;
            for (int t = 0; t < placed; t++) {
                if (rank[s] < rank[t] && base[t][s] < 1 || rank[t] < rank[s] && base[s][t] < 1) {
                    return false;
                }
                if (rank[s] == rank[t] && (base[t][s] < 0 || base[s][t] < 0)) {
                    return false;
                }
            }
            return true;
        }

        private void leaf(int[] rank, long[][] base, int mask) {
            int n = terms.size();
            boolean[][] equal = new boolean[n][n];
            long[][] steps = new long[n][n];
            for (int s = 0; s < n; s++) {
                for (int t = 0; t < n; t++) {
                    equal[s][t] = rank[s] == rank[t];
                    long step = rank[s] == rank[t] ? 0 : rank[s] < rank[t] ? -1 : FAR;
                    steps[s][t] = Math.min(step, base[s][t]);
                }
            }
            for (int k = 0; k < lefts.size(); k++) {
                if ((mask >> k & 1) == 1 && signs.get(k) == '#' && equal[left(k)][right(k)]) {
                    return;
                }
            }
            for (int s = 5; s < n; s++) {
                for (int t = s + 1; t < n; t++) {
                    if (!equal[s][t] && terms.get(s).charAt(0) == terms.get(t).charAt(0) && congruent(s, t, equal)) {
                        return;
                    }
                }
            }
            long[][] sums = paths(steps);
            if (sums == null) {
                return;
            }
            found = true;
            for (int s = 0; s < n; s++) {
                for (int t = 0; t < n; t++) {
                    greatest[s][t] = Math.max(greatest[s][t], sums[s][t]);
                    always[0][s][t] &= rank[s] == rank[t];
                    always[1][s][t] &= rank[s] != rank[t];
                    always[2][s][t] &= rank[s] <= rank[t];
                }
            }
            int equalPairs = 0;
            int p = 0;
            for (int s = 0; s < 5; s++) {
                for (int t = s + 1; t < 5; t++) {
                    equalPairs |= equal[s][t] ? 1 << p : 0;
                    p++;
                }
            }
            if (!equalMasks.contains(equalPairs)) {
                equalMasks.add(equalPairs);
            }
        }

        int[] eitherPairs() {
            int[] values = {1, 2, 3, 4, 12, 13, 14, 23, 24, 34};
            for (int p = 0; p < 10; p++) {
                for (int q = p + 1; q < 10; q++) {
                    boolean one = true;
                    boolean pAlways = true;
                    boolean qAlways = true;
                    for (int mask : equalMasks) {
                        one &= (mask >> p & 1) == 1 || (mask >> q & 1) == 1;
                        pAlways &= (mask >> p & 1) == 1;
                        qAlways &= (mask >> q & 1) == 1;
                    }
                    if (one && !pAlways && !qAlways) {
                        return new int[] {values[p], values[q]};
                    }
                }
            }
            return new int[] {NONE, NONE};
        }

        int kept() {
            int kept = (1 << lefts.size()) - 1;
            for (int k = lefts.size() - 1; k >= 0; k--) {
                solve(kept & ~(1 << k));
                if (!found) {
                    kept &= ~(1 << k);
                }
            }
            return kept;
        }
    }

    private static int answer(long sum) {
        return sum >= FAR / 2 ? NONE : sum > 2000000000L || sum < -2000000000L ? GREAT : (int) sum;
    }

    private static String randomTerm(int depth, int names) {
        int sort = depth == 0 ? 0 : pick(6);
        if (sort < 3) {
            return String.valueOf((char) ('a' + pick(names)));
        }
        if (sort < 5) {
            return "f(" + randomTerm(depth - 1, names) + ")";
        }
        return "g(" + randomTerm(depth - 1, names) + "," + randomTerm(depth - 1, names) + ")";
    }

    /** A term that the literals have already, or a new one: few terms in many literals bear on each other. */
    private static String knownTerm(List<String> known, int depth, int names) {
        return !known.isEmpty() && pick(2) == 0 ? known.get(known.size() - 1 - pick(Math.min(4, known.size()))) : randomTerm(depth, names);
    }

    private static String randomLiteral(List<String> known, int depth, int names, int mix) {
        String left = knownTerm(known, depth, names);
        String right = knownTerm(known, depth, names);
        int sort = pick(10);
        if (sort < 2) {
            return left + (pick(3) == 0 ? "=" : "#") + right;
        }
        if (sort < 2 + mix) {
            return left + "#" + right;
        }
        int number = pick(5) - 2;
        if (pick(40) == 0) {
            number = 999999 - pick(3);
        }
        return left + "<" + right + (number == 0 ? "" : number > 0 ? "+" + number : String.valueOf(number));
    }

    /** Literals after which c, or what stands for it, has the value of a or of b; the names are shuffled. */
    private static List<String> narrowLiterals() {
        String[] names = {"a", "b", "c", "d", "e"};
        for (int i = 4; i > 0; i--) {
            int j = pick(i + 1);
            String kept = names[i];
            names[i] = names[j];
            names[j] = kept;
        }
        String[] shapes = {"A<C", "C<B", "B<A+1", "A#B", "D<B", "A<D", "C#D", "f(C)=D", "f(D)=E", "f(C)#f(D)", "E<A+1", "A<E"};
        List<String> literals = new ArrayList<>();
        for (int i = 0; i < shapes.length && literals.size() < 10; i++) {
            if (pick(i < 4 ? 12 : 3) != 0) {
                String text = shapes[i];
                for (int n = 0; n < 5; n++) {
                    text = text.replace(String.valueOf((char) ('A' + n)), names[n]);
                }
                literals.add(pick(literals.size() + 1), text);
            }
        }
        return literals;
    }

    private static void write(JoinedTheories x, String text) {
        x.blank();
        for (int i = 0; i < text.length(); i++) {
            x.letter(text.charAt(i));
        }
    }

    private static List<String> texts(Reference r) {
        List<String> texts = new ArrayList<>();
        for (int k = 0; k < r.lefts.size(); k++) {
            texts.add(r.lefts.get(k) + r.signs.get(k) + r.rights.get(k) + (r.numbers.get(k) == 0 ? "" : " " + r.numbers.get(k)));
        }
        return texts;
    }

    private static void compareStructure(int run, JoinedTheories x, Reference r, List<String> texts) {
        due(run, texts, "count(0)", x.count(0), r.lefts.size());
        due(run, texts, "count(1)", x.count(1), r.terms.size());
        for (int k = 0; k < r.lefts.size(); k++) {
            due(run, texts, "literal(" + k + ",0)", x.literal(k, 0), "=#<".indexOf(r.signs.get(k)));
            due(run, texts, "literal(" + k + ",1)", x.literal(k, 1), r.left(k));
            due(run, texts, "literal(" + k + ",2)", x.literal(k, 2), r.right(k));
            due(run, texts, "literal(" + k + ",3)", x.literal(k, 3), r.numbers.get(k));
        }
        for (int t = 0; t < r.terms.size(); t++) {
            String text = r.terms.get(t);
            List<String> parts = Reference.parts(text);
            int have = 0;
            for (int k = 0; k < r.lefts.size(); k++) {
                have += r.left(k) == t || r.right(k) == t ? 1 : 0;
            }
            due(run, texts, "term(" + t + ",0)", x.term(t, 0), parts.size());
            due(run, texts, "term(" + t + ",1)", x.term(t, 1), parts.size() > 0 ? r.terms.indexOf(parts.get(0)) : NONE);
            due(run, texts, "term(" + t + ",2)", x.term(t, 2), parts.size() > 1 ? r.terms.indexOf(parts.get(1)) : NONE);
            due(run, texts, "term(" + t + ",3)", x.term(t, 3), text.length());
            due(run, texts, "term(" + t + ",5)", x.term(t, 5), have);
        }
    }

    private static void compareExchange(int run, JoinedTheories x, Reference r, List<String> texts) {
        r.runExchange();
        due(run, texts, "exchange(0)", x.exchange(0), r.conflict ? 1 : 0);
        due(run, texts, "exchange(1)", x.exchange(1), r.rounds);
        due(run, texts, "exchange(2)", x.exchange(2), r.classes());
        for (int s = 0; s < r.terms.size(); s++) {
            due(run, texts, "term(" + s + ",4)", x.term(s, 4), r.smallest(s));
            for (int t = 0; t < r.terms.size(); t++) {
                due(run, texts, "far(" + s + "," + t + ")", x.far(s, t), r.conflict ? STATE : answer(r.far[s][t]));
            }
        }
    }

    private static void compareSolutions(int run, JoinedTheories x, Reference r, List<String> texts) {
        r.solve(-1);
        boolean found = r.found;
        int counted = x.count(5);
        due(run, texts, "holds()", x.holds(), found ? 1 : 0);
        for (int s = 0; s < r.terms.size(); s++) {
            for (int t = 0; t < r.terms.size(); t++) {
                due(run, texts, "apart(" + s + "," + t + ")", x.apart(s, t), found ? answer(r.greatest[s][t]) : STATE);
                for (int sort = 0; sort < 3; sort++) {
                    int want = found ? r.always[sort][s][t] ? 1 : 0 : STATE;
                    due(run, texts, "implied(" + s + "," + t + "," + sort + ")", x.implied(s, t, sort), want);
                }
            }
        }
        int[] pairs = r.eitherPairs();
        due(run, texts, "either(0)", x.either(0), found && counted < 12 ? pairs[0] : STATE);
        due(run, texts, "either(1)", x.either(1), found && counted < 11 ? pairs[1] : STATE);
        due(run, texts, "count(5)", x.count(5), found ? Math.min(12, counted + 2) : counted);
        due(run, texts, "why()", x.why(), found ? STATE : r.kept());
        if (!found) {
            unsolvable++;
        } else if (pairs[0] != NONE) {
            withPairs++;
        }
    }

    private static int unsolvable = 0;
    private static int withPairs = 0;
    private static int compared = 0;

    private static void compareDigest(int run, JoinedTheories x, List<String> texts, String page) {
        long h = 1609;
        for (int k = 0; k < x.count(0); k++) {
            for (int what = 0; what < 4; what++) {
                h = 31 * h + x.literal(k, what);
            }
        }
        for (int t = 0; t < x.count(1); t++) {
            for (int what = 0; what < 6; what++) {
                h = 31 * h + x.term(t, what);
            }
        }
        for (int what = 0; what < 3; what++) {
            h = 31 * h + x.exchange(what);
        }
        h = 31 * h + x.holds();
        for (int i = 0; i < page.length(); i++) {
            h = 31 * h + page.charAt(i);
        }
        for (int what = 0; what < 6; what++) {
            h = 31 * h + x.count(what);
        }
        due(run, texts, "digest()", x.digest(), h);
    }

    private static void scaleBoth(int run, JoinedTheories x, Reference r) {
        int times = pick(4) == 0 ? pick(2001) - 1000 : pick(5) - 2;
        int changed = 0;
        boolean great = false;
        for (int k = 0; k < r.lefts.size(); k++) {
            long product = r.numbers.get(k) * times;
            changed += product != r.numbers.get(k) ? 1 : 0;
            great |= Math.abs(product) > 2000000000L;
        }
        due(run, texts(r), "scale(" + times + ")", x.scale(times), great ? GREAT : changed);
        for (int k = 0; k < r.lefts.size() && !great; k++) {
            r.numbers.set(k, r.numbers.get(k) * times);
        }
    }

    private static void oneRun(int run, int mostTerms) {
        JoinedTheories x = new JoinedTheories();
        Reference r = new Reference();
        int depth = pick(3);
        int names = 2 + pick(4);
        int mix = pick(7);
        List<String> given = pick(4) == 0 ? narrowLiterals() : new ArrayList<>();
        int literals = given.isEmpty() ? 1 + pick(10) : given.size() + pick(11 - given.size());
        String page = "";
        for (int tries = 0; tries < 30 && r.lefts.size() < literals; tries++) {
            String text = tries < given.size() ? given.get(tries) : randomLiteral(r.terms, depth, names, mix);
            if (text.length() > 40) {
                continue;
            }
            r.append(text);
            boolean fits = r.terms.size() <= mostTerms;
            if (fits || r.terms.size() > 10) {
                page = fits ? "" : text;
                write(x, text);
                due(run, texts(r), "add()", x.add(), fits ? r.lefts.size() - 1 : FULL);
            }
            if (!fits) {
                r.removeAt(r.lefts.size() - 1);
            }
        }
        for (int turn = 0; turn < 3; turn++) {
            List<String> texts = texts(r);
            compared++;
            compareStructure(run, x, r, texts);
            compareExchange(run, x, r, texts);
            compareSolutions(run, x, r, texts);
            compareDigest(run, x, texts, page);
            if (pick(3) == 0) {
                scaleBoth(run, x, r);
            } else if (!r.lefts.isEmpty()) {
                int k = pick(r.lefts.size());
                r.removeAt(k);
                due(run, texts, "drop(" + k + ")", x.drop(k), r.lefts.size());
            }
        }
    }

    /** Says where a text stops being a literal; ended: the text was over before something wrong came. */
    private static final class Stop extends RuntimeException {
        private static final long serialVersionUID = 1;
        final boolean ended;
        final int index;

        Stop(boolean ended, int index) {
            this.ended = ended;
            this.index = index;
        }
    }

    private static int expect(String text, int at, String signs) {
        if (at >= text.length()) {
            throw new Stop(true, at);
        }
        if (signs.indexOf(text.charAt(at)) < 0) {
            throw new Stop(false, at);
        }
        return at + 1;
    }

    private static int afterTerm(String text, int at) {
        int next = expect(text, at, "abcdefg");
        char sign = text.charAt(at);
        if (sign <= 'e') {
            return next;
        }
        next = afterTerm(text, expect(text, next, "("));
        if (sign == 'g') {
            next = afterTerm(text, expect(text, next, ","));
        }
        return expect(text, next, ")");
    }

    /** Goes through a literal; always ends with a Stop, or returns if the whole text is one. */
    private static void goThroughLiteral(String text) {
        int sign = afterTerm(text, 0);
        int at = afterTerm(text, expect(text, sign, "=#<"));
        if (at == text.length()) {
            return;
        }
        if (text.charAt(sign) != '<') {
            throw new Stop(false, at);
        }
        at = expect(text, at, "+-");
        expect(text, at, "123456789");
        for (int i = at; i < text.length(); i++) {
            expect(text, i, i < at + 6 ? "0123456789" : "");
        }
    }

    private static String randomPage() {
        StringBuilder page = new StringBuilder(randomLiteral(new ArrayList<>(), pick(4), 5, 3));
        if (pick(3) == 0) {
            page.append("0123456789".charAt(pick(10))).append(pick(9999999));
        }
        for (int edits = pick(3); edits > 0 && page.length() > 0; edits--) {
            int at = pick(page.length());
            char sign = "abcdefg(),=#<+-0123456789 hA~".charAt(pick(29));
            switch (pick(4)) {
                case 0:
                    page.setCharAt(at, sign);
                    break;
                case 1:
                    page.insert(at, sign);
                    break;
                case 2:
                    page.deleteCharAt(at);
                    break;
                default:
                    page.setLength(at);
                    break;
            }
        }
        return page.length() > 40 ? page.substring(0, 40) : page.toString();
    }

    private static void comparePages(int pages) {
        int complete = 0;
        for (int n = 1; n <= pages; n++) {
            String page = randomPage();
            int fault = page.length();
            boolean whole = true;
            try {
                goThroughLiteral(page);
                complete++;
            } catch (Stop stop) {
                whole = false;
                fault = stop.ended ? page.length() : stop.index;
            }
            JoinedTheories x = new JoinedTheories();
            write(x, page);
            due(-n, List.of(page), "fault()", x.fault(), fault);
            due(-n, List.of(page), "whether add() is STATE", x.add() == STATE ? 1 : 0, whole ? 0 : 1);
        }
        System.out.println(pages + " pages compared, " + complete + " complete");
    }

    public static void main(String[] args) {
        int runs = args.length > 0 ? Integer.parseInt(args[0]) : 800;
        seed = args.length > 1 ? Long.parseLong(args[1]) : 1;
        int bigEvery = args.length > 2 ? Integer.parseInt(args[2]) : 40;
        for (int run = 1; run <= runs; run++) {
            oneRun(run, run % bigEvery == 0 ? 7 : 5 + pick(2));
        }
        comparePages(20 * runs);
        System.out.println(compared + " states compared, " + unsolvable + " without solution, " + withPairs + " with two pairs");
        System.out.println(wrong == 0 ? "all answers are as due" : wrong + " answers are not as due");
        if (wrong != 0) {
            System.exit(1);
        }
    }
}
