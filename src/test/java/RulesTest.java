import java.io.IOException;
import java.nio.file.Files;
import java.nio.file.Path;
import java.util.Arrays;
import java.util.List;
import java.util.regex.Matcher;
import java.util.regex.Pattern;

/** Rules of LANGUAGE.md that can be seen in the source; what hangs on its meaning is for a reader. */
public final class RulesTest {
    private static final Checks CHECKS = new Checks("RulesTest");
    private static final Path SOURCE = Path.of("src/main/java/FlickerDesk.java");
    /** Rules 2, 6, 10 and 13: what may not stand in the code at all (catches aside, which the class has no need of). */
    private static final String[] FORBIDDEN = {"->", "::", "\\bsynchronized\\b", "\\bassert\\b", "\\bfinally\\b",
        "\\btry\\b", "\\bcatch\\b", "\\bpackage\\b", "\\bprotected\\b", "\\bvolatile\\b", "\\btransient\\b",
        "\\bnative\\b", "\\bvar\\b", "\\bSystem\\.(?!arraycopy\\b)", "\\bThread\\b", "\\bRandom\\b",
        "\\bMath\\.random\\b", "\\bMath\\.\\w+Exact\\b", "\\bhashCode\\b", "\\btoString\\b", "\\bstatic\\s*\\{"};
    private static final int LONGEST_METHOD = 60;
    private static final int MOST_PARAMETERS = 7;
    private static final int MOST_CLASSES = 12;

    private RulesTest() {
    }

    public static void main(String[] args) throws IOException {
        String text = Files.readString(SOURCE);
        String code = bare(text);
        signs(text);
        for (String forbidden : FORBIDDEN) {
            none(code, forbidden);
        }
        imports(code);
        classes(code);
        thrown(code);
        staticFields(code);
        methods(code);
        CHECKS.end();
    }

    /** The code without comments and with empty texts; lines stay lines. */
    private static String bare(String text) {
        StringBuilder bare = new StringBuilder();
        Matcher parts = Pattern.compile("/\\*.*?\\*/|//[^\\n]*|\"(?:\\\\.|[^\"\\\\])*\"|'(?:\\\\.|[^'\\\\])'",
                Pattern.DOTALL).matcher(text);
        int from = 0;
        while (parts.find()) {
            bare.append(text, from, parts.start());
            String part = parts.group();
            bare.append(part.startsWith("\"") ? "\"\"" : part.startsWith("'") ? "'.'" : part.replaceAll("[^\\n]", ""));
            from = parts.end();
        }
        return bare.append(text.substring(from)).toString();
    }

    private static int lineOf(String code, int at) {
        return (int) code.substring(0, at).chars().filter(c -> c == '\n').count() + 1;
    }

    private static void none(String code, String forbidden) {
        Matcher found = Pattern.compile(forbidden).matcher(code);
        CHECKS.due(forbidden + " does not stand there", 0, 0);
        while (found.find()) {
            CHECKS.complain(forbidden + " stands in line " + lineOf(code, found.start()));
        }
    }

    private static void signs(String text) {
        CHECKS.due("signs above 127", text.chars().filter(c -> c > 127).count(), 0);
    }

    private static void imports(String code) {
        List<String> allowed = List.of("java.util.Arrays", "java.util.NoSuchElementException");
        Matcher found = Pattern.compile("(?m)^import ([^;]*);").matcher(code);
        while (found.find()) {
            CHECKS.due("import " + found.group(1), allowed.contains(found.group(1)) ? 1 : 0, 1);
        }
    }

    private static void classes(String code) {
        int many = 0;
        Matcher found = Pattern.compile("(?m)^(.*)\\b(class|enum|record|interface) (\\w+)").matcher(code);
        while (found.find()) {
            many++;
            String head = found.group(1).trim();
            boolean right = found.group(3).equals("FlickerDesk") ? head.equals("public final")
                    : head.startsWith("private") && (head.contains("static") || found.group(2).equals("enum"));
            CHECKS.due("the head of " + found.group(3), right ? 1 : 0, 1);
        }
        CHECKS.due("at most so many classes", many <= MOST_CLASSES ? 1 : 0, 1);
        CHECKS.due("the class is found", many > 0 ? 1 : 0, 1);
    }

    /** Only shade() throws, and only what the document names. */
    private static void thrown(String code) {
        int many = 0;
        Matcher found = Pattern.compile("\\bthrow\\b[^;]*;").matcher(code);
        while (found.find()) {
            many++;
            CHECKS.due(found.group(), found.group().equals("throw new NoSuchElementException(\"\");") ? 1 : 0, 1);
        }
        CHECKS.due("how many throw", many, 1);
    }

    private static void staticFields(String code) {
        Matcher found = Pattern.compile("(?m)^.*\\bstatic\\b[^(;{]*=.*$").matcher(code);
        int many = 0;
        while (found.find()) {
            many++;
            String line = found.group().trim();
            boolean right = line.matches("(public|private) static final (int|int\\[\\]|Word\\[\\]) [A-Z_]+ = .*");
            CHECKS.due("a static field: " + line, right ? 1 : 0, 1);
        }
        CHECKS.due("static fields are found", many > 0 ? 1 : 0, 1);
    }

    /** A method is what begins with a head at a class's depth and ends with the brace at the same depth. */
    private static void methods(String code) {
        int many = 0;
        Matcher found = Pattern.compile("(?m)^( {4}| {8})(?![ ])(?!.*\\b(?:class|enum|new)\\b)"
                + "[\\w\\[\\] ]*?\\w+\\(([^)]*)\\)[^;{=]*\\{$").matcher(code);
        while (found.find()) {
            if (found.group().trim().matches("(if|for|while|switch|else|do)\\b.*")) {
                continue;
            }
            many++;
            String head = found.group().trim();
            int end = code.indexOf("\n" + found.group(1) + "}", found.end());
            int lines = lineOf(code, end + 1) - lineOf(code, found.start()) + 1;
            CHECKS.due(head + " has a bounded length", end > 0 && lines <= LONGEST_METHOD ? 1 : 0, 1);
            long parameters = Arrays.stream(found.group(2).split(",")).filter(p -> !p.isBlank()).count();
            CHECKS.due(head + " takes few parameters", parameters <= MOST_PARAMETERS ? 1 : 0, 1);
        }
        CHECKS.due("methods are found", many > 100 ? 1 : 0, 1);
    }
}
