import java.io.IOException;
import java.nio.file.Files;
import java.nio.file.Path;
import java.util.ArrayList;
import java.util.List;
import java.util.Set;
import java.util.TreeSet;
import java.util.regex.Matcher;
import java.util.regex.Pattern;

/** Those rules of LANGUAGE.md that can be seen by reading the class line by line. */
public final class SourceRules {
    private static final Path SOURCE = Path.of("src", "main", "java", "PieceWords.java");
    private static final Pattern HEAD = Pattern.compile(
        "^    (    )?(public |private |static )*(int |long |boolean |void )?(\\w+)\\(([^()]*)\\) \\{$");
    private static final String FACE = "type clear relators words chooser relator member good alike rank length letter "
        + "adds times inverse power ring turn sum cuts cut shorten trail nothing same order turned nothings draw loops "
        + "told digest";

    private static int wrong = 0;

    public static void main(String[] args) throws IOException {
        List<String> code = withoutComments(Files.readAllLines(SOURCE));
        forbiddenWords(code);
        methods(code);
        face();
        signatures();
        fields();
        classesInside();
        System.out.println(wrong == 0 ? "the source keeps the rules" : wrong + " places break a rule");
        if (wrong != 0) {
            System.exit(1);
        }
    }

    private static void say(int line, String what) {
        wrong++;
        System.out.println("line " + line + ": " + what);
    }

    private static List<String> withoutComments(List<String> lines) {
        List<String> code = new ArrayList<>();
        for (String line : lines) {
            String bare = line.strip();
            boolean comment = bare.startsWith("/*") || bare.startsWith("*") || bare.startsWith("//");
            code.add(comment ? "" : line);
        }
        return code;
    }

    private static void forbiddenWords(List<String> code) {
        Pattern forbidden = Pattern.compile("\\b(throw|throws|try|catch|finally|synchronized|assert|import|package|protected|"
            + "volatile|native|System|Thread|Random|Object|hashCode|toString)\\b|->|::|Exact\\(|\\[\\]\\[\\]\\[\\]");
        for (int k = 0; k < code.size(); k++) {
            if (forbidden.matcher(code.get(k)).find()) {
                say(k + 1, "a word that the rules leave out: " + code.get(k).strip());
            }
        }
    }

    /** Methods stay short, take few parameters, bear no name of the face, and make no objects. */
    private static void methods(List<String> code) {
        Set<String> face = new TreeSet<>(List.of(FACE.split(" ")));
        int seen = 0;
        for (int k = 0; k < code.size(); k++) {
            Matcher head = HEAD.matcher(code.get(k));
            if (!head.matches()) {
                continue;
            }
            seen++;
            String indent = head.group(1) == null ? "    " : "        ";
            int end = k;
            while (!code.get(end).equals(indent + "}")) {
                end++;
            }
            boolean isConstructor = head.group(3) == null;
            boolean isPublic = code.get(k).startsWith("    public ");
            if (end - k > 60) {
                say(k + 1, head.group(4) + " is long");
            }
            if (head.group(5).split(",").length > 7) {
                say(k + 1, head.group(4) + " takes many parameters");
            }
            if (!isPublic && face.contains(head.group(4))) {
                say(k + 1, head.group(4) + " bears a name of the face");
            }
            for (int line = k; line < end && !isConstructor; line++) {
                if (code.get(line).contains("new ")) {
                    say(line + 1, head.group(4) + " makes an object at each call");
                }
            }
        }
        if (seen < 60) {
            say(0, "only " + seen + " methods were seen: does this test still read the source?");
        }
    }

    private static void face() {
        Set<String> face = new TreeSet<>(List.of(FACE.split(" ")));
        for (java.lang.reflect.Method m : PieceWords.class.getDeclaredMethods()) {
            boolean isPublic = java.lang.reflect.Modifier.isPublic(m.getModifiers());
            boolean isPrivate = java.lang.reflect.Modifier.isPrivate(m.getModifiers());
            if (!isPublic && !isPrivate || isPublic && !face.remove(m.getName())) {
                say(0, "not of the face: " + m.getName());
            }
        }
        for (String missing : face) {
            say(0, "missing of the face: " + missing);
        }
    }

    /** Each method of the face takes as many ints as the document says and answers an int (digest a long). */
    private static void signatures() {
        String[] takes = {"clear relators digest", "type words chooser good rank length cuts cut shorten nothing order "
            + "nothings told", "relator member alike letter adds inverse ring sum same turned", "times power turn trail draw loops"};
        for (int many = 0; many < takes.length; many++) {
            Class<?>[] parameters = new Class<?>[many];
            java.util.Arrays.fill(parameters, int.class);
            for (String name : takes[many].split(" ")) {
                signature(name, parameters);
            }
        }
        java.lang.reflect.Constructor<?>[] made = PieceWords.class.getDeclaredConstructors();
        if (made.length != 1 || made[0].getParameterCount() != 0 || !java.lang.reflect.Modifier.isPublic(made[0].getModifiers())) {
            say(0, "the constructor is not that of the face");
        }
    }

    private static void signature(String name, Class<?>[] parameters) {
        try {
            Class<?> answers = PieceWords.class.getMethod(name, parameters).getReturnType();
            if (answers != (name.equals("digest") ? long.class : int.class)) {
                say(0, name + " answers " + answers);
            }
        } catch (NoSuchMethodException e) {
            say(0, name + " does not take " + parameters.length + " ints");
        }
    }

    private static void fields() {
        Set<String> constants = new TreeSet<>(List.of("NONE", "BAD", "NO", "FULL"));
        for (java.lang.reflect.Field f : PieceWords.class.getDeclaredFields()) {
            int is = f.getModifiers();
            boolean isConstant = java.lang.reflect.Modifier.isPublic(is) && java.lang.reflect.Modifier.isStatic(is)
                && java.lang.reflect.Modifier.isFinal(is) && f.getType() == int.class && constants.remove(f.getName());
            if (!isConstant && !java.lang.reflect.Modifier.isPrivate(is)) {
                say(0, "not of the face: " + f.getName());
            }
            if (java.lang.reflect.Modifier.isStatic(is) && !java.lang.reflect.Modifier.isFinal(is)) {
                say(0, "a static field that is not final: " + f.getName());
            }
        }
        for (String missing : constants) {
            say(0, "missing of the face: " + missing);
        }
    }

    private static void classesInside() {
        Class<?>[] inside = PieceWords.class.getDeclaredClasses();
        if (inside.length > 11) {
            say(0, "many classes: " + inside.length);
        }
        for (Class<?> c : inside) {
            int is = c.getModifiers();
            if (!java.lang.reflect.Modifier.isStatic(is) || java.lang.reflect.Modifier.isPublic(is)
                    || java.lang.reflect.Modifier.isProtected(is)) {
                say(0, "not static, or seen from outside: " + c.getName());
            }
            if (c.getDeclaredFields().length > 20) {
                say(0, "many fields: " + c.getName());
            }
        }
    }
}
