import java.util.ArrayList;
import java.util.List;

/**
 * Runs of 512 calls in any order with any arguments: each answer is one that the document has for the call (promises 2
 * to 18), a call that returns an error changes nothing, a question changes nothing, and an object answers as a new one
 * does that has got the same literals by add() alone. The questions in between are not counted among the 512 calls.
 */
public final class AnyCalls {
    private static final int NONE = -2000000001, UNKNOWN = -2000000002, OUTSIDE = -2000000003, STATE = -2000000004, FULL = -2000000005, GREAT = -2000000006;
    private static final int CALLS = 512;
    private static final int[] EDGES = {
        Integer.MIN_VALUE, -1001, -1000, -2, -1, 0, 1, 2, 3, 4, 5, 6, 9, 10, 11, 31, 32, 40, 126, 127, 1000, 1001, 65536, Integer.MAX_VALUE};
    private static final String[] TERMS = {"a", "b", "c", "d", "e", "f(a)", "f(b)", "f(c)", "f(f(a))", "g(a,b)", "g(b,a)", "g(f(a),c)"};
    private static final String[] NAMES = {
        "letter", "blank", "fault", "add", "drop", "scale", "literal", "term", "exchange", "far", "holds", "apart", "implied", "why", "either", "count"};
    /** The errors that the document names for each of these methods. */
    private static final int[][] ERRORS = {
        {OUTSIDE, FULL}, {}, {}, {STATE, FULL}, {UNKNOWN}, {OUTSIDE, GREAT}, {UNKNOWN, OUTSIDE}, {UNKNOWN, OUTSIDE}, {OUTSIDE},
        {UNKNOWN, STATE, GREAT}, {}, {UNKNOWN, STATE, GREAT}, {UNKNOWN, OUTSIDE, STATE}, {STATE}, {OUTSIDE, STATE}, {OUTSIDE}};
    private static final boolean[] MAY_BE_NONE = {
        false, false, false, false, false, false, false, true, false, true, false, true, false, false, true, false};
    private static final int DROP = 4, FIRST_QUESTION = 6, EITHER = 14;

    private static int wrong = 0;
    private static long seed = 1;

    private static int pick(int n) {
        seed = seed * 6364136223846793005L + 1442695040888963407L;
        return (int) ((seed >>> 33) % n);
    }

    private static int argument() {
        return pick(4) == 0 ? EDGES[pick(EDGES.length)] : pick(11);
    }

    private static void tell(int run, String fault) {
        wrong++;
        if (wrong <= 50) {
            System.out.println("run " + run + ": " + fault);
        }
    }

    private static int call(JoinedTheories x, int method, int p, int q, int r) {
        switch (method) {
            case 0: return x.letter(p);
            case 1: return x.blank();
            case 2: return x.fault();
            case 3: return x.add();
            case 4: return x.drop(p);
            case 5: return x.scale(p);
            case 6: return x.literal(p, q);
            case 7: return x.term(p, q);
            case 8: return x.exchange(p);
            case 9: return x.far(p, q);
            case 10: return x.holds();
            case 11: return x.apart(p, q);
            case 12: return x.implied(p, q, r);
            case 13: return x.why();
            case 14: return x.either(p);
            default: return x.count(p);
        }
    }

    private static boolean has(int[] values, int value) {
        for (int one : values) {
            if (one == value) {
                return true;
            }
        }
        return false;
    }

    private static boolean mayAnswer(int method, int answer) {
        if (answer == NONE) {
            return MAY_BE_NONE[method];
        }
        return answer >= -2000000000 && answer <= 2000000000 || has(ERRORS[method], answer);
    }

    private static String literalText(JoinedTheories x, int k, String[] terms) {
        String text = terms[x.literal(k, 1)] + "=#<".charAt(x.literal(k, 0)) + terms[x.literal(k, 2)];
        int number = x.literal(k, 3);
        return number == 0 ? text : text + (number > 0 ? "+" : "") + number;
    }

    private static String[] termTexts(JoinedTheories x) {
        String[] texts = new String[x.count(1)];
        for (int t = 0; t < texts.length; t++) {
            int kind = x.term(t, 0);
            if (kind == 0) {
                texts[t] = String.valueOf((char) ('a' + t));
            } else if (kind == 1) {
                texts[t] = "f(" + texts[x.term(t, 1)] + ")";
            } else {
                texts[t] = "g(" + texts[x.term(t, 1)] + "," + texts[x.term(t, 2)] + ")";
            }
        }
        return texts;
    }

    /** A new object with the same literals; null if a number has no text. */
    private static JoinedTheories rebuilt(JoinedTheories x) {
        JoinedTheories y = new JoinedTheories();
        String[] terms = termTexts(x);
        for (int k = 0; k < x.count(0); k++) {
            if (Math.abs(x.literal(k, 3)) > 999999) {
                return null;
            }
            for (char sign : literalText(x, k, terms).toCharArray()) {
                y.letter(sign);
            }
            y.add();
        }
        return y;
    }

    private static void compareWithRebuilt(int run, JoinedTheories x) {
        JoinedTheories y = rebuilt(x);
        if (y == null) {
            return;
        }
        int terms = x.count(1);
        for (int method = FIRST_QUESTION; method < EITHER; method++) {
            for (int p = 0; p < terms; p++) {
                for (int q = 0; q < terms; q++) {
                    int sort = pick(3);
                    if (call(x, method, p, q, sort) != call(y, method, p, q, sort)) {
                        tell(run, NAMES[method] + "(" + p + "," + q + "," + sort + ") answers otherwise than a new object");
                    }
                }
            }
        }
        compared++;
        solvable += x.holds();
    }

    private static int compared = 0;
    private static int solvable = 0;
    private static int errors = 0;

    /** Writes a literal most of the time; letters by chance would hardly ever make one. */
    private static List<Integer> literalLetters() {
        List<Integer> letters = new ArrayList<>();
        String text = TERMS[pick(TERMS.length)] + "=#<<<".charAt(pick(5)) + TERMS[pick(TERMS.length)];
        int number = pick(7) - 3;
        if (text.indexOf('<') >= 0 && number != 0) {
            text += (number > 0 ? "+" : "") + number;
        }
        for (char sign : text.toCharArray()) {
            letters.add((int) sign);
        }
        return letters;
    }

    private static void oneRun(int run) {
        JoinedTheories x = new JoinedTheories();
        List<Integer> letters = new ArrayList<>();
        int mostLiterals = 1 + pick(11);
        for (int n = 1; n <= CALLS; n++) {
            int method = pick(40) < 16 ? pick(NAMES.length) : 0;
            method = x.count(0) >= mostLiterals && pick(4) == 0 ? DROP : method;
            int p = argument();
            int q = argument();
            int r = pick(5) == 0 ? argument() : pick(3);
            if (method == 0 && pick(30) != 0) {
                if (letters.isEmpty() && x.count(2) > 0) {
                    method = pick(4) == 0 ? 1 : 3;
                } else {
                    letters = letters.isEmpty() ? literalLetters() : letters;
                    p = letters.remove(0);
                }
            }
            long before = x.digest();
            int answer = call(x, method, p, q, r);
            if (!mayAnswer(method, answer)) {
                tell(run, NAMES[method] + "(" + p + "," + q + "," + r + ") answered " + answer);
            }
            boolean question = method >= FIRST_QUESTION && method != EITHER || method == 2;
            if ((question || has(ERRORS[method], answer)) && x.digest() != before) {
                tell(run, NAMES[method] + "(" + p + "," + q + "," + r + "), which answered " + answer + ", changed something");
            }
            if (question && call(x, method, p, q, r) != answer) {
                tell(run, NAMES[method] + "(" + p + "," + q + "," + r + ") answers otherwise the second time");
            }
            errors += has(ERRORS[method], answer) ? 1 : 0;
            if (pick(60) == 0) {
                compareWithRebuilt(run, x);
            }
        }
    }

    public static void main(String[] args) {
        int runs = args.length > 0 ? Integer.parseInt(args[0]) : 150;
        seed = args.length > 1 ? Long.parseLong(args[1]) : 1;
        for (int run = 1; run <= runs; run++) {
            oneRun(run);
        }
        System.out.println(runs + " runs, " + errors + " errors returned, " + compared + " states compared with new objects, " + solvable + " with solutions");
        System.out.println(wrong == 0 ? "all answers are as due" : wrong + " answers are not as due");
        if (wrong != 0) {
            System.exit(1);
        }
    }
}
