import java.io.IOException;
import java.lang.reflect.Constructor;
import java.lang.reflect.Field;
import java.lang.reflect.Member;
import java.lang.reflect.Method;
import java.lang.reflect.Modifier;
import java.nio.file.Files;
import java.nio.file.Path;
import java.util.ArrayList;
import java.util.List;
import java.util.Set;
import java.util.TreeSet;
import java.util.regex.Matcher;
import java.util.regex.Pattern;

/** Looks through the class and its source for what ../shared/LANGUAGE.md rules out, as far as a plain look can tell. */
public final class LanguageRules {
    private static final String[] FACE = {
        "public int JoinedTheories.letter(int)", "public int JoinedTheories.blank()", "public int JoinedTheories.fault()",
        "public int JoinedTheories.add()", "public int JoinedTheories.drop(int)", "public int JoinedTheories.scale(int)",
        "public int JoinedTheories.literal(int,int)", "public int JoinedTheories.term(int,int)",
        "public int JoinedTheories.exchange(int)", "public int JoinedTheories.far(int,int)",
        "public int JoinedTheories.holds()", "public int JoinedTheories.apart(int,int)",
        "public int JoinedTheories.implied(int,int,int)", "public int JoinedTheories.why()",
        "public int JoinedTheories.either(int)", "public int JoinedTheories.count(int)", "public long JoinedTheories.digest()",
        "public static final int JoinedTheories.NONE", "public static final int JoinedTheories.UNKNOWN",
        "public static final int JoinedTheories.OUTSIDE", "public static final int JoinedTheories.STATE",
        "public static final int JoinedTheories.FULL", "public static final int JoinedTheories.GREAT",
        "public JoinedTheories()"};
    private static final String[] RULED_OUT = {
        "\\b(throw|throws|try|catch|finally|synchronized|assert|package|volatile|transient|native|var|yield)\\b", "->", "::",
        "\\b(protected|instanceof|equals|hashCode|toString|values|Exact)\\b", "\\bSystem\\.(?!arraycopy\\b)",
        "\\bArrays\\.(?!fill\\b|copyOf\\b|copyOfRange\\b)", "\\bstatic\\s*\\{", "\\b(double|float|Object|Thread|Random)\\b", "%|(?<![/*])/(?![/*])"};
    private static int wrong = 0;

    private static void tell(String fault) {
        wrong++;
        System.out.println(fault);
    }

    private static void checkFace() {
        Set<String> want = new TreeSet<>(List.of(FACE));
        Set<String> have = new TreeSet<>();
        List<Member> members = new ArrayList<>();
        for (Method method : JoinedTheories.class.getDeclaredMethods()) {
            members.add(method);
        }
        for (Field field : JoinedTheories.class.getDeclaredFields()) {
            members.add(field);
        }
        for (Constructor<?> constructor : JoinedTheories.class.getDeclaredConstructors()) {
            members.add(constructor);
        }
        for (Member member : members) {
            if (!Modifier.isPrivate(member.getModifiers())) {
                have.add(member.toString());
            }
        }
        if (!have.equals(want)) {
            tell("rule 1: the face is " + have);
        }
        if (!Modifier.isFinal(JoinedTheories.class.getModifiers())) {
            tell("rule 1: the class is not final");
        }
    }

    private static void checkClasses() {
        Set<String> publicNames = new TreeSet<>();
        for (Method method : JoinedTheories.class.getMethods()) {
            publicNames.add(method.getName());
        }
        List<Class<?>> classes = new ArrayList<>(List.of(JoinedTheories.class.getDeclaredClasses()));
        if (classes.size() > 11) {
            tell("rule 11: there are too many classes");
        }
        for (Class<?> inside : classes) {
            if (!Modifier.isStatic(inside.getModifiers())) {
                tell("rule 2: " + inside + " is not static");
            }
        }
        classes.add(JoinedTheories.class);
        for (Class<?> one : classes) {
            checkFields(one);
            for (Method method : one.getDeclaredMethods()) {
                if (method.getParameterCount() > 7) {
                    tell("rule 11: " + method + " has too many parameters");
                }
                if (!Modifier.isPublic(method.getModifiers()) && publicNames.contains(method.getName())) {
                    tell("rule 1: " + method + " bears the name of a public method");
                }
            }
        }
    }

    private static void checkFields(Class<?> one) {
        int fields = 0;
        for (Field field : one.getDeclaredFields()) {
            boolean isStatic = Modifier.isStatic(field.getModifiers());
            fields += isStatic ? 0 : 1;
            if (isStatic && !Modifier.isFinal(field.getModifiers())) {
                tell("rule 5: " + field + " is not final");
            }
        }
        if (fields > 20) {
            tell("rule 11: " + one + " has too many fields");
        }
    }

    private static void checkSource() throws IOException {
        String source = Files.readString(Path.of("src/main/java/JoinedTheories.java"));
        String code = source.replaceAll("(?s)/\\*.*?\\*/", "").replaceAll("//[^\n]*", "");
        for (String pattern : RULED_OUT) {
            Matcher matcher = Pattern.compile(pattern).matcher(code);
            if (matcher.find()) {
                tell("the source has: " + matcher.group());
            }
        }
        Matcher imports = Pattern.compile("import ([^;]*);").matcher(code);
        while (imports.find()) {
            if (!imports.group(1).equals("java.util.Arrays")) {
                tell("rule 4: the source imports " + imports.group(1));
            }
        }
        checkLengths(code.split("\n"));
    }

    /** A method begins in a line that ends with ") {" and has a type before its name, and ends where its indent ends. */
    private static void checkLengths(String[] lines) {
        Pattern head = Pattern.compile("( ++)(?!if|for|while|switch|return|else)[\\w\\[\\] ]+\\([^()]*\\) \\{");
        for (int i = 0; i < lines.length; i++) {
            Matcher matcher = head.matcher(lines[i]);
            if (matcher.matches()) {
                int end = i;
                while (end < lines.length && !lines[end].equals(matcher.group(1) + "}")) {
                    end++;
                }
                if (end - i > 60) {
                    tell("rule 11: too long: " + lines[i]);
                }
            }
        }
    }

    public static void main(String[] args) throws IOException {
        checkFace();
        checkClasses();
        checkSource();
        System.out.println(wrong == 0 ? "no rule is broken" : wrong + " faults");
        if (wrong != 0) {
            System.exit(1);
        }
    }
}
