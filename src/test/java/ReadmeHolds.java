import java.io.IOException;
import java.lang.reflect.Method;
import java.nio.file.Files;
import java.nio.file.Path;
import java.util.ArrayList;
import java.util.List;
import java.util.Set;
import java.util.TreeSet;
import java.util.regex.Matcher;
import java.util.regex.Pattern;
import java.util.stream.Stream;

/** What README.md says is so: its calls are done and their answers held against those that stand there. */
public final class ReadmeHolds {
    private static final Pattern MAKING = Pattern.compile("PieceWords x = new PieceWords\\(\\);");
    private static final Pattern TYPING = Pattern.compile("for \\(char c : \"([^\"]*)\"\\.toCharArray\\(\\)\\) x\\.type\\(c\\);");
    private static final Pattern CALL = Pattern.compile("x\\.(\\w+)\\(([^()]*)\\);\\s+// (-?\\d+)(:.*)?");

    private static int wrong = 0;

    public static void main(String[] args) throws IOException, ReflectiveOperationException {
        List<String> lines = Files.readAllLines(Path.of("README.md"));
        int calls = calls(lines);
        if (calls < 30) {
            say("only " + calls + " calls were seen: does this test still read README.md?");
        }
        sameNames("test", namedTests(lines), testFiles());
        sameNames("class", namedIn(section(lines, "## How it is made"), "`([A-Z]\\w+)`:"), innerClasses());
        System.out.println(wrong == 0 ? calls + " calls of README.md are as due" : wrong + " places of README.md are not so");
        if (wrong != 0) {
            System.exit(1);
        }
    }

    private static void say(String what) {
        wrong++;
        System.out.println(what);
    }

    private static int calls(List<String> lines) throws ReflectiveOperationException {
        PieceWords x = null;
        boolean inside = false;
        int calls = 0;
        for (int k = 0; k < lines.size(); k++) {
            String line = lines.get(k);
            if (line.startsWith("```")) {
                inside = line.equals("```java");
                x = null;
            } else if (inside && MAKING.matcher(line).matches()) {
                x = new PieceWords();
            } else if (inside && x != null) {
                calls += oneLine(x, line, k + 1);
            } else if (inside) {
                say("line " + (k + 1) + ": no object has been made");
            }
        }
        return calls;
    }

    private static int oneLine(PieceWords x, String line, int number) throws ReflectiveOperationException {
        Matcher typing = TYPING.matcher(line);
        if (typing.matches()) {
            for (char c : typing.group(1).toCharArray()) {
                x.type(c);
            }
            return 0;
        }
        Matcher call = CALL.matcher(line);
        if (!call.matches()) {
            say("line " + number + " is no call with its answer: " + line);
            return 0;
        }
        long got = answer(x, call.group(1), call.group(2));
        if (got != Long.parseLong(call.group(3))) {
            say("line " + number + ": " + line + " answered " + got);
        }
        return 1;
    }

    private static long answer(PieceWords x, String name, String numbers) throws ReflectiveOperationException {
        String[] told = numbers.isEmpty() ? new String[0] : numbers.split(", ");
        Class<?>[] types = new Class<?>[told.length];
        Object[] values = new Object[told.length];
        for (int k = 0; k < told.length; k++) {
            types[k] = int.class;
            values[k] = Integer.valueOf(told[k]);
        }
        Method method = PieceWords.class.getMethod(name, types);
        return ((Number) method.invoke(x, values)).longValue();
    }

    private static List<String> section(List<String> lines, String title) {
        List<String> inside = new ArrayList<>();
        boolean in = false;
        for (String line : lines) {
            if (line.startsWith("## ")) {
                in = line.equals(title);
            } else if (in) {
                inside.add(line);
            }
        }
        return inside;
    }

    private static Set<String> namedIn(List<String> lines, String pattern) {
        Set<String> names = new TreeSet<>();
        Matcher named = Pattern.compile(pattern).matcher(String.join("\n", lines));
        while (named.find()) {
            names.add(named.group(1));
        }
        return names;
    }

    /** The names at the head of each point of the list, up to its colon. */
    private static Set<String> namedTests(List<String> lines) {
        Set<String> names = new TreeSet<>();
        for (String line : section(lines, "## Tests")) {
            if (line.startsWith("- ")) {
                names.addAll(namedIn(List.of(line.substring(0, line.indexOf(':') + 1)), "`([A-Z]\\w+)`"));
            }
        }
        return names;
    }

    private static Set<String> testFiles() throws IOException {
        Set<String> names = new TreeSet<>();
        try (Stream<Path> files = Files.list(Path.of("src", "test", "java"))) {
            files.map(file -> file.getFileName().toString()).filter(name -> name.endsWith(".java"))
                .forEach(name -> names.add(name.substring(0, name.length() - ".java".length())));
        }
        return names;
    }

    private static Set<String> innerClasses() {
        Set<String> names = new TreeSet<>();
        for (Class<?> inside : PieceWords.class.getDeclaredClasses()) {
            names.add(inside.getSimpleName());
        }
        return names;
    }

    private static void sameNames(String what, Set<String> named, Set<String> found) {
        if (!named.equals(found)) {
            say("README.md names as " + what + " " + named + ", there are " + found);
        }
    }
}
