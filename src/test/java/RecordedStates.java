import java.io.IOException;
import java.nio.file.Files;
import java.nio.file.Path;

/**
 * Compares the class with answers that another solver found for states of 8 to 10 terms, which are too many for the
 * reference of RandomRuns. Promises 12 to 16.
 */
public final class RecordedStates {
    private static final int NONE = -2000000001, STATE = -2000000004;

    private static int wrong = 0;
    private static int states = 0;

    private static void due(String literals, String call, long got, long want) {
        if (got != want) {
            wrong++;
            if (wrong <= 50) {
                System.out.println(literals + ": " + call + " answered " + got + ", due is " + want);
            }
        }
    }

    private static long number(String text, int dash) {
        return text.equals("-") ? dash : Long.parseLong(text);
    }

    private static JoinedTheories with(String literals) {
        JoinedTheories x = new JoinedTheories();
        String[] texts = literals.split(" ");
        for (int k = 0; k < texts.length; k++) {
            for (int i = 0; i < texts[k].length(); i++) {
                x.letter(texts[k].charAt(i));
            }
            due(literals, "add() of " + texts[k], x.add(), k);
        }
        return x;
    }

    private static void compare(String line) {
        String[] parts = line.split(" \\| ");
        String literals = parts[0];
        String[] shortAnswers = parts[1].split(" ");
        boolean solvable = parts.length > 2;
        JoinedTheories x = with(literals);
        states++;
        due(literals, "holds()", x.holds(), solvable ? 1 : 0);
        due(literals, "why()", x.why(), number(shortAnswers[0], STATE));
        due(literals, "either(0)", x.either(0), number(shortAnswers[1], solvable ? NONE : STATE));
        due(literals, "either(1)", x.either(1), number(shortAnswers[2], solvable ? NONE : STATE));
        if (solvable) {
            compareTables(x.count(1), literals, parts[2].split(" "), parts[3]);
        }
    }

    /** Each row has an object of its own: nothing is promised about an object after its 512th call. */
    private static void compareTables(int terms, String literals, String[] apart, String implied) {
        due(literals, "the square of count(1)", (long) terms * terms, apart.length);
        for (int s = 0; s < terms; s++) {
            JoinedTheories x = with(literals);
            for (int t = 0; t < terms; t++) {
                int cell = s * terms + t;
                due(literals, "apart(" + s + "," + t + ")", x.apart(s, t), number(apart[cell], NONE));
                for (int sort = 0; sort < 3; sort++) {
                    int want = implied.charAt(cell) - '0' >> sort & 1;
                    due(literals, "implied(" + s + "," + t + "," + sort + ")", x.implied(s, t, sort), want);
                }
            }
        }
    }

    public static void main(String[] args) throws IOException {
        for (String line : Files.readAllLines(Path.of("src/test/data/recorded-states.txt"))) {
            if (!line.startsWith("--")) {
                compare(line);
            }
        }
        System.out.println(states + " states compared");
        System.out.println(wrong == 0 && states > 0 ? "all answers are as due" : wrong + " answers are not as due");
        if (wrong != 0 || states == 0) {
            System.exit(1);
        }
    }
}
