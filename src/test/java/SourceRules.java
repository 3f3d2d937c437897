import java.io.IOException;
import java.nio.file.Files;
import java.nio.file.Path;
import java.util.ArrayList;
import java.util.List;
import java.util.Set;
import java.util.TreeSet;
import java.util.regex.Matcher;
import java.util.regex.Pattern;

/** Those rules of LANGUAGE.md that can be seen by reading the class line by line. */
public final class SourceRules {
    private static final Path SOURCE = Path.of("src", "main", "java", "PieceWords.java");
    private static final Pattern HEAD = Pattern.compile(
        "^    (    )?(public |private |static )*(int |long |boolean |void )?(\\w+)\\(([^()]*)\\) \\{$");
    private static final String FACE = "type clear relators words chooser relator member good alike rank length letter "
        + "adds times inverse power ring turn sum cuts cut shorten trail nothing same order turned nothings draw loops "
        + "told digest";

    private static int wrong = 0;

    public static void main(String[] args) throws IOException {
        List<String> code = withoutComments(Files.readAllLines(SOURCE));
        forbiddenWords(code);
        methods(code);
        face();
        System.out.println(wrong == 0 ? "the source keeps the rules" : wrong + " places break a rule");
        if (wrong != 0) {
            System.exit(1);
        }
    }

    private static void say(int line, String what) {
        wrong++;
        System.out.println("line " + line + ": " + what);
    }

    private static List<String> withoutComments(List<String> lines) {
        List<String> code = new ArrayList<>();
        for (String line : lines) {
            String bare = line.strip();
            boolean comment = bare.startsWith("/*") || bare.startsWith("*") || bare.startsWith("//");
            code.add(comment ? "" : line);
        }
        return code;
    }

    private static void forbiddenWords(List<String> code) {
        Pattern forbidden = Pattern.compile("\\b(throw|throws|try|catch|finally|synchronized|assert|import|package|protected|"
            + "volatile|native|System|Thread|Random|Object|hashCode|toString)\\b|->|::|Exact\\(|\\[\\]\\[\\]\\[\\]");
        for (int k = 0; k < code.size(); k++) {
            if (forbidden.matcher(code.get(k)).find()) {
                say(k + 1, "a word that the rules leave out: " + code.get(k).strip());
            }
        }
    }

    /** Methods stay short, take few parameters, bear no name of the face, and make no objects. */
    private static void methods(List<String> code) {
        Set<String> face = new TreeSet<>(List.of(FACE.split(" ")));
        int seen = 0;
        for (int k = 0; k < code.size(); k++) {
            Matcher head = HEAD.matcher(code.get(k));
            if (!head.matches()) {
                continue;
            }
            seen++;
            String indent = head.group(1) == null ? "    " : "        ";
            int end = k;
            while (!code.get(end).equals(indent + "}")) {
                end++;
            }
            boolean isConstructor = head.group(3) == null;
            boolean isPublic = code.get(k).startsWith("    public ");
            if (end - k > 60) {
                say(k + 1, head.group(4) + " is long");
            }
            if (head.group(5).split(",").length > 7) {
                say(k + 1, head.group(4) + " takes many parameters");
            }
            if (!isPublic && face.contains(head.group(4))) {
                say(k + 1, head.group(4) + " bears a name of the face");
            }
            for (int line = k; line < end && !isConstructor; line++) {
                if (code.get(line).contains("new ")) {
                    say(line + 1, head.group(4) + " makes an object at each call");
                }
            }
        }
        if (seen < 60) {
            say(0, "only " + seen + " methods were seen: does this test still read the source?");
        }
    }

    private static void face() {
        Set<String> face = new TreeSet<>(List.of(FACE.split(" ")));
        for (java.lang.reflect.Method m : PieceWords.class.getDeclaredMethods()) {
            boolean isPublic = java.lang.reflect.Modifier.isPublic(m.getModifiers());
            boolean isPrivate = java.lang.reflect.Modifier.isPrivate(m.getModifiers());
            if (!isPublic && !isPrivate || isPublic && !face.remove(m.getName())) {
                say(0, "not of the face: " + m.getName());
            }
        }
        for (String missing : face) {
            say(0, "missing of the face: " + missing);
        }
    }
}
