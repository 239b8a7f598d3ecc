import java.io.IOException;
import java.nio.file.Files;
import java.nio.file.Path;

/** What the checks of the promises share: the sentence of the document that is being checked, and what is due of a call. */
class Checks {
    static final int NONE = -2000000001, UNKNOWN = -2000000002, OUTSIDE = -2000000003, STATE = -2000000004, FULL = -2000000005, GREAT = -2000000006;
    static final int LEAST = Integer.MIN_VALUE, MOST = Integer.MAX_VALUE;

    private static final Path DOCUMENT = Path.of("../shared/DOC.md");
    private static final int PROMISES = 18;
    /** Parts of the document: 0 to PROMISES are the description and the promises, the last one is what stands before them. */
    private static final int BEFORE = PROMISES + 1;
    private static final String[] parts = new String[PROMISES + 2];
    private static final boolean[][] quoted = new boolean[PROMISES + 2][];

    private static int promise = 0;
    private static String sentence = "";
    private static int sentences = 0;
    private static int wrong = 0;

    static void promise(int number) {
        promise = number;
        sentence = "";
    }

    /** Begins the checks of a sentence of the present promise, or of the description, which has to be in the document. */
    static void sentence(String words) {
        sentence = words;
        sentences++;
        if (!quote(promise, words) && !quote(0, words) && !quote(BEFORE, words)) {
            tell("the document does not say this");
        }
    }

    private static void tell(String fault) {
        wrong++;
        System.out.println("promise " + promise + ", \"" + sentence + "\": " + fault);
    }

    static void due(String call, long got, long want) {
        if (got != want) {
            tell(call + " answered " + got + ", due is " + want);
        }
    }

    /** A call that returns an error changes nothing: the digest is what it was before. */
    static void dueError(JoinedTheories x, long before, String call, long got, long want) {
        due(call, got, want);
        due("digest() after " + call, x.digest(), before);
    }

    static void write(JoinedTheories x, String text) {
        x.blank();
        for (int i = 0; i < text.length(); i++) {
            due("letter() of " + text.charAt(i), x.letter(text.charAt(i)), i + 1);
        }
    }

    static int enter(JoinedTheories x, String text) {
        write(x, text);
        return x.add();
    }

    /** A new object with these literals. */
    static JoinedTheories with(String... texts) {
        JoinedTheories x = new JoinedTheories();
        for (int k = 0; k < texts.length; k++) {
            due("add() of " + texts[k], enter(x, texts[k]), k);
        }
        return x;
    }

    /** Multiplies all numbers by a thousand millions; so 2 becomes the greatest number that there is. */
    static JoinedTheories enlarged(String... texts) {
        JoinedTheories x = with(texts);
        for (int times = 0; times < 3; times++) {
            x.scale(1000);
        }
        return x;
    }

    static String joined(String... texts) {
        return String.join(" ", texts);
    }

    static void readDocument() throws IOException {
        if (!Files.exists(DOCUMENT)) {
            return;
        }
        StringBuilder[] texts = new StringBuilder[parts.length];
        int part = BEFORE;
        for (String line : Files.readAllLines(DOCUMENT)) {
            if (line.startsWith("## ")) {
                part = partAfter(line, part);
            } else if (part >= 0 && !line.matches("`.*|---- .*|[A-Z ]+|The constructor and the methods follow.*")) {
                texts[part] = texts[part] == null ? new StringBuilder() : texts[part];
                texts[part].append(line).append(' ');
            }
        }
        for (int i = 0; i < parts.length; i++) {
            parts[i] = String.valueOf(texts[i]).replaceAll("\\s+", " ");
            quoted[i] = new boolean[parts[i].length()];
        }
    }

    private static int partAfter(String heading, int before) {
        if (heading.startsWith("## Description")) {
            return 0;
        }
        if (heading.startsWith("## Promise ")) {
            return Integer.parseInt(heading.substring(11, heading.indexOf(':')));
        }
        return before == BEFORE ? BEFORE : -1;
    }

    private static boolean quote(int part, String words) {
        if (parts[part] == null) {
            return true;
        }
        int at = parts[part].indexOf(words);
        boolean found = at >= 0;
        while (at >= 0) {
            java.util.Arrays.fill(quoted[part], at, at + words.length(), true);
            at = parts[part].indexOf(words, at + 1);
        }
        return found;
    }

    /** Tells what the description and the promises say that no check has quoted. */
    private static void tellUnquoted() {
        for (int part = 0; part <= PROMISES && parts[part] != null; part++) {
            StringBuilder left = new StringBuilder();
            for (int i = 0; i < parts[part].length(); i++) {
                left.append(quoted[part][i] ? '|' : parts[part].charAt(i));
            }
            for (String words : left.toString().split("\\|+")) {
                if (words.matches(".*[A-Za-z0-9].*")) {
                    promise(part);
                    sentence = words.trim();
                    tell("no check is about this");
                }
            }
        }
    }

    static void end() {
        tellUnquoted();
        System.out.println(sentences + " sentences checked");
        System.out.println(wrong == 0 ? "all answers are as due" : wrong + " answers are not as due");
        if (wrong != 0) {
            System.exit(1);
        }
    }
}
