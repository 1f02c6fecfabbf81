import java.io.IOException;
import java.lang.reflect.Constructor;
import java.lang.reflect.Field;
import java.lang.reflect.Method;
import java.lang.reflect.Modifier;
import java.nio.file.Files;
import java.nio.file.Path;
import java.util.ArrayList;
import java.util.List;
import java.util.Set;
import java.util.TreeSet;

/** The public face of the document, and such rules of LANGUAGE.md as can be read from the class and its text. */
public final class FaceTest {
    private static final Path SOURCE = Path.of("src/main/java/CoatDinner.java");
    private static final String[] METHODS = {"int person(int)", "int leave(int)", "int coat(int,int,int)",
        "int set(int,int,int)", "int cap(int)", "int give(int,int,int)", "int say(int)", "int wipe()", "int fault()",
        "int judge(int)", "int done()", "int state(int,int)", "int behind(int,int)", "int at(int)",
        "int beside(int,int)", "int head(int,int)", "int ways(int,int)", "int seatings()", "int decides(int)",
        "int sewn(int,int)", "int hired(int,int,int)", "int rises(int)", "int league(int)", "long share(int,int)",
        "int leaves(int)", "int elected(int)", "long moths(int,int,int)", "int seen(int,int)", "int forget()",
        "int fit(int)", "int year(int,int,int)", "int image(int)", "int restore(int)", "int told(int)"};
    private static final String[] FIELDS = {"int NONE", "int UNKNOWN", "int OUTSIDE", "int STATE", "int FULL",
        "int NO", "long LOST"};
    private static final String[] FORBIDDEN = {"import ", "->", "::", "throw ", "try ", "catch", "finally",
        "synchronized", "assert ", "instanceof", "System.", "Thread", "Random", "protected ", "Exact(", "double ",
        "float "};
    private static int wrong = 0;

    private static void due(String what, Object got, Object want) {
        if (!got.equals(want)) {
            wrong++;
            System.out.println(what + ": " + got + ", due is " + want);
        }
    }

    private static Set<String> setOf(String[] all) {
        return new TreeSet<>(List.of(all));
    }

    private static String nameOf(Method m) {
        StringBuilder b = new StringBuilder(m.getReturnType().getName()).append(' ').append(m.getName()).append('(');
        for (Class<?> c : m.getParameterTypes()) {
            b.append(b.charAt(b.length() - 1) == '(' ? "" : ",").append(c.getName());
        }
        return b.append(')').toString();
    }

    private static void face() {
        Class<?> face = CoatDinner.class;
        due("public final", Modifier.isPublic(face.getModifiers()) && Modifier.isFinal(face.getModifiers()), true);
        Set<String> methods = new TreeSet<>();
        for (Method m : face.getDeclaredMethods()) {
            if (!Modifier.isPrivate(m.getModifiers())) {
                methods.add(nameOf(m));
                due(m.getName() + " is public and of an object", m.getModifiers(), Modifier.PUBLIC);
            }
        }
        due("methods", methods, setOf(METHODS));
        Set<String> fields = new TreeSet<>();
        for (Field f : face.getDeclaredFields()) {
            if (!Modifier.isPrivate(f.getModifiers())) {
                fields.add(f.getType().getName() + " " + f.getName());
                due(f.getName(), f.getModifiers(), Modifier.PUBLIC | Modifier.STATIC | Modifier.FINAL);
            }
        }
        due("constants", fields, setOf(FIELDS));
        Constructor<?>[] constructors = face.getDeclaredConstructors();
        due("constructors", constructors.length, 1);
        due("its modifiers", constructors[0].getModifiers(), Modifier.PUBLIC);
        due("its parameters", constructors[0].getParameterCount(), 0);
    }

    private static void constants() {
        due("NONE", CoatDinner.NONE, -6);
        due("UNKNOWN", CoatDinner.UNKNOWN, -1);
        due("OUTSIDE", CoatDinner.OUTSIDE, -2);
        due("STATE", CoatDinner.STATE, -3);
        due("FULL", CoatDinner.FULL, -4);
        due("NO", CoatDinner.NO, -5);
        due("LOST", CoatDinner.LOST, -1000000000000000000L);
    }

    private static void inside() {
        List<Class<?>> all = new ArrayList<>(List.of(CoatDinner.class));
        all.addAll(List.of(CoatDinner.class.getDeclaredClasses()));
        due("twelve classes at most", all.size() <= 12, true);
        Set<String> names = new TreeSet<>();
        for (String m : METHODS) {
            names.add(m.substring(m.indexOf(' ') + 1, m.indexOf('(')));
        }
        for (Class<?> c : all) {
            int fields = 0;
            for (Field f : c.getDeclaredFields()) {
                fields += Modifier.isStatic(f.getModifiers()) ? 0 : 1;
                due("rule 5, " + f, !Modifier.isStatic(f.getModifiers()) || Modifier.isFinal(f.getModifiers()), true);
            }
            due("rule 11, fields of " + c, fields <= 20, true);
            for (Method m : c.getDeclaredMethods()) {
                due("rule 11, parameters of " + m, m.getParameterCount() <= 7, true);
                if (!Modifier.isPublic(m.getModifiers())) {
                    due("rule 1, the name of " + m, names.contains(m.getName()), false);
                }
            }
            if (c != CoatDinner.class) {
                due("rule 1, " + c, Modifier.isStatic(c.getModifiers()) && !Modifier.isPublic(c.getModifiers()), true);
            }
        }
    }

    private static void text() throws IOException {
        List<String> lines = Files.readAllLines(SOURCE);
        int began = 0;
        for (int i = 0; i < lines.size(); i++) {
            String line = lines.get(i);
            String code = line.strip();
            if (code.startsWith("*") || code.startsWith("/")) {
                continue;
            }
            for (String word : FORBIDDEN) {
                due("line " + (i + 1) + " has " + word, code.contains(word), false);
            }
            // Rows are made once, with the object: no call makes anything.
            due("line " + (i + 1) + " makes an object in a call",
                code.contains("new ") && !code.startsWith("private final "), false);
            if (code.endsWith(") {") && line.matches(" {4}(| {4})(private|public).*")) {
                began = i;
            }
            if (line.equals("    }") || line.equals("        }")) {
                due("rule 11, the method that ends in line " + (i + 1), i - began <= 60 || began == 0, true);
            }
        }
    }

    public static void main(String[] args) throws IOException {
        face();
        constants();
        inside();
        text();
        System.out.println(wrong == 0 ? "the face is as due" : wrong + " are not as due");
        if (wrong != 0) {
            System.exit(1);
        }
    }
}
