import java.io.IOException;
import java.lang.reflect.Constructor;
import java.lang.reflect.Field;
import java.lang.reflect.Method;
import java.lang.reflect.Modifier;
import java.nio.file.Files;
import java.nio.file.Path;
import java.util.ArrayList;
import java.util.Arrays;
import java.util.List;
import java.util.Set;
import java.util.TreeSet;
import java.util.regex.Matcher;
import java.util.regex.Pattern;

/** The public face, and those rules of LANGUAGE.md that can be seen by a look at the class or its text. */
public final class FaceTest {
    private static final Answers ANSWERS = new Answers();
    private static final Path SOURCE = Path.of("src/main/java/FavoursGoOff.java");
    private static final String[] METHODS = {
        "int people(int)", "int strong(int,int)", "int favour(int,int,int,int,int,int)", "int need(int,int,int,int)",
        "int contented()", "int type(long,int)", "int clear()", "int read()", "int value(int,int)", "int of(int)",
        "int pass(int,int)", "int join(int,int)", "int ask(int)", "int night()", "int undo()", "int owes(int,int)",
        "int ring(int)", "int cancel()", "int net(int)", "int fewest()", "int met(int)", "int plan(int)",
        "int fire(int,int)", "int rate(int,int)", "int set(int,int)", "int settles()", "int told(int,int,int)",
        "int forged()", "int forget()", "int goesOff(int)", "int kept(int,int)", "long part(int)", "int image(int)",
        "int from(int)", "int status(int)", "int count(int)", "long digest()"};

    public static void main(String[] args) throws IOException {
        constants();
        members();
        nestedClasses();
        words(withoutComments(Files.readString(SOURCE)));
        ANSWERS.end("FaceTest");
    }

    private static void constants() {
        ANSWERS.due("NONE", FavoursGoOff.NONE, -1);
        ANSWERS.due("BAD", FavoursGoOff.BAD, -2);
        ANSWERS.due("NO", FavoursGoOff.NO, -3);
        ANSWERS.due("FULL", FavoursGoOff.FULL, -4);
    }

    private static void members() {
        Class<?> face = FavoursGoOff.class;
        ANSWERS.due("public final", face.getModifiers() & (Modifier.PUBLIC | Modifier.FINAL), Modifier.PUBLIC | Modifier.FINAL);
        Set<String> found = new TreeSet<>();
        for (Method m : face.getDeclaredMethods()) {
            if (Modifier.isPublic(m.getModifiers())) {
                found.add(m.getReturnType() + " " + m.getName() + parameters(m.getParameterTypes()));
            } else {
                none("a private method with a public name: " + m.getName(), publicNames().contains(m.getName()));
                none("not private: " + m.getName(), !m.isSynthetic() && !Modifier.isPrivate(m.getModifiers()));
            }
        }
        ANSWERS.due("methods " + found, found.equals(new TreeSet<>(Arrays.asList(METHODS))) ? 1 : 0, 1);
        for (Constructor<?> c : face.getDeclaredConstructors()) {
            ANSWERS.due("constructor", c.getParameterCount(), 0);
        }
        int open = 0;
        for (Field f : face.getDeclaredFields()) {
            open += Modifier.isPrivate(f.getModifiers()) ? 0 : 1;
            none("static and not final: " + f, Modifier.isStatic(f.getModifiers()) && !Modifier.isFinal(f.getModifiers()));
        }
        ANSWERS.due("constants in all", open, 4);
    }

    private static void nestedClasses() {
        List<Class<?>> all = new ArrayList<>(List.of(FavoursGoOff.class.getDeclaredClasses()));
        none("more than twelve classes", all.size() + 1 > 12);
        for (Class<?> c : all) {
            none("not static: " + c, !Modifier.isStatic(c.getModifiers()));
            none("public or protected: " + c, (c.getModifiers() & (Modifier.PUBLIC | Modifier.PROTECTED)) != 0);
            for (Method m : c.getDeclaredMethods()) {
                none("a public name inside: " + m, publicNames().contains(m.getName()));
            }
            long fields = Arrays.stream(c.getDeclaredFields()).filter(f -> !Modifier.isStatic(f.getModifiers())).count();
            none("many fields: " + c, fields > 20);
        }
    }

    private static void words(String text) {
        String[] banned = {"throw", "throws", "try", "catch", "finally", "synchronized", "assert", "equals", "hashCode",
            "toString", "import", "package", "var", "double", "float", "Exact", "protected", "Object"};
        for (String word : banned) {
            Matcher m = Pattern.compile("\\b" + word + "\\b").matcher(text);
            none("the word " + word, m.find());
        }
        none("System but for arraycopy", Pattern.compile("System\\.(?!arraycopy)").matcher(text).find());
        none("a lambda", text.contains("->"));
        none("a method reference", text.contains("::"));
        none("a list or a text made", Pattern.compile("new (String|ArrayList|StringBuilder)").matcher(text).find());
        none("a library call", Pattern.compile("\\b(Math|Long|Integer)\\.(?!max|min|abs)").matcher(text).find());
        none("a sign over 127", text.chars().anyMatch(c -> c > 126));
        methodLengths(text);
    }

    private static void methodLengths(String text) {
        int start = 0;
        String[] lines = text.split("\n", -1);
        for (int i = 0; i < lines.length; i++) {
            if (lines[i].matches(" {4}( {4})?\\S.*\\) \\{")) {
                start = i;
            }
            if (lines[i].matches(" {4}( {4})?\\}")) {
                none("a method of " + (i - start + 1) + " lines up to line " + (i + 1), start > 0 && i - start + 1 > 60);
                start = 0;
            }
        }
    }

    private static void none(String what, boolean found) {
        ANSWERS.due(what, found ? 1 : 0, 0);
    }

    private static Set<String> publicNames() {
        Set<String> names = new TreeSet<>();
        for (String m : METHODS) {
            names.add(m.substring(m.indexOf(' ') + 1, m.indexOf('(')));
        }
        return names;
    }

    private static String parameters(Class<?>[] types) {
        StringBuilder all = new StringBuilder("(");
        for (Class<?> type : types) {
            all.append(all.length() > 1 ? "," : "").append(type.getName());
        }
        return all.append(")").toString();
    }

    private static String withoutComments(String text) {
        Matcher m = Pattern.compile("/\\*.*?\\*/|//[^\n]*", Pattern.DOTALL).matcher(text);
        return m.replaceAll(r -> "\n".repeat((int) r.group().chars().filter(c -> c == '\n').count()));
    }
}
