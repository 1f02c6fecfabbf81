import java.io.IOException;
import java.lang.reflect.Method;
import java.lang.reflect.Modifier;
import java.net.URL;
import java.net.URLClassLoader;
import java.nio.file.Files;
import java.nio.file.Path;
import java.util.Comparator;
import java.util.List;
import java.util.Set;
import java.util.TreeSet;
import java.util.regex.Matcher;
import java.util.regex.Pattern;
import java.util.stream.Stream;
import javax.tools.ToolProvider;

/** The example of README.md is compiled and run: each call whose remark begins with an answer must answer it. */
public final class ReadmeTest {
    private static final Path README = Path.of("README.md");
    private static final Pattern CALL =
        Pattern.compile("(town\\.(\\w+)\\([^;]*\\));\\s*// (-?\\d+|[A-Z]{2,}( \\+ [A-Z]+)?)(:.*)?");
    /** Stands in a loop, where it has an answer a round. */
    private static final String IN_LOOP = "town.say(sign);";
    private static final Set<String> USED = new TreeSet<>(Set.of("say"));
    private static int unanswered = 0;

    private static List<String> example() throws IOException {
        String text = Files.readString(README);
        int from = text.indexOf("```java\n");
        int to = text.indexOf("```", from + 3);
        return from < 0 || to < 0 ? List.of() : text.substring(from + 8, to).lines().toList();
    }

    private static String answer(String told) {
        return Character.isLetter(told.charAt(0)) ? told.replaceAll("([A-Z]+)", "CoatDinner.$1") : told;
    }

    /** The example as a class whose method run tells how many answers are not as its remarks say. */
    private static String program(List<String> lines) {
        StringBuilder b = new StringBuilder("public final class ReadmeExample {\nprivate static int wrong = 0;\n");
        b.append("private static void due(String call, long got, long want) {\nif (got != want) {\nwrong++;\n");
        b.append("System.out.println(call + \" answered \" + got + \", README.md says \" + want);\n}\n}\n");
        b.append("public static int run() {\n");
        for (String line : lines) {
            Matcher m = CALL.matcher(line.strip());
            if (m.matches()) {
                USED.add(m.group(2));
                b.append("due(\"").append(m.group(1)).append("\", ").append(m.group(1)).append(", ");
                b.append(answer(m.group(3))).append(");\n");
            } else {
                b.append(line).append('\n');
                unanswered += line.contains("town.") && !line.contains(IN_LOOP) ? 1 : 0;
            }
        }
        return b.append("return wrong;\n}\n}\n").toString();
    }

    private static int wrongAnswers(Path dir) throws IOException, ReflectiveOperationException {
        Path source = dir.resolve("ReadmeExample.java");
        Files.writeString(source, program(example()));
        String path = System.getProperty("java.class.path");
        int code = ToolProvider.getSystemJavaCompiler().run(null, null, null, "-cp", path, "-d", dir.toString(),
            source.toString());
        if (code != 0) {
            System.out.println("the example of README.md does not compile");
            return 1;
        }
        URL[] urls = {dir.toUri().toURL()};
        try (URLClassLoader loader = new URLClassLoader(urls, ReadmeTest.class.getClassLoader())) {
            return (int) loader.loadClass("ReadmeExample").getMethod("run").invoke(null);
        }
    }

    private static int callsLeftOut() {
        int many = 0;
        for (Method m : CoatDinner.class.getDeclaredMethods()) {
            if (Modifier.isPublic(m.getModifiers()) && !USED.contains(m.getName())) {
                System.out.println("the example of README.md has no answer of " + m.getName());
                many++;
            }
        }
        return many;
    }

    private static void remove(Path dir) throws IOException {
        try (Stream<Path> all = Files.walk(dir)) {
            for (Path path : all.sorted(Comparator.reverseOrder()).toList()) {
                Files.delete(path);
            }
        }
    }

    public static void main(String[] args) throws IOException, ReflectiveOperationException {
        Path dir = Files.createTempDirectory("readme");
        int wrong = wrongAnswers(dir) + callsLeftOut() + unanswered;
        remove(dir);
        if (unanswered != 0) {
            System.out.println(unanswered + " calls of README.md have no answer beside them");
        }
        System.out.println(wrong == 0 ? "README.md is as due" : wrong + " of README.md are not as due");
        if (wrong != 0) {
            System.exit(1);
        }
    }
}
