import java.io.IOException;
import java.lang.reflect.Constructor;
import java.lang.reflect.Field;
import java.lang.reflect.Method;
import java.lang.reflect.Modifier;
import java.nio.file.Files;
import java.nio.file.Path;
import java.util.Arrays;
import java.util.List;
import java.util.Set;
import java.util.TreeSet;
import java.util.regex.Matcher;
import java.util.regex.Pattern;

/** The public face, and the rules of LANGUAGE.md that can be seen from the outside or from single words. */
public final class LanguageTest {
    private static final Set<String> FACE = new TreeSet<>(List.of(
            "feed(int,int,int,int,int)", "end(int)", "type(int)", "member(int,boolean)", "parameter(int)", "comment(int)",
            "fault()", "bare(int)", "told(int,int)", "block(int,int,int)", "piece(int,int,int)", "leads(int)",
            "page(int,int,int)", "about(int)", "at(int)", "line(int)", "target(int)", "notes(int)", "note(int,int)",
            "count(int)"));

    public static void main(String[] args) throws IOException {
        constants();
        face();
        nested();
        words();
        Desk.finish();
    }

    private static void constants() {
        Desk.due("NONE", DocFormat.NONE, -1);
        Desk.due("BAD", DocFormat.BAD, -1);
        Desk.due("STATE", DocFormat.STATE, -2);
        Desk.due("FULL", DocFormat.FULL, -3);
    }

    private static void face() {
        Desk.due("final", Modifier.isFinal(DocFormat.class.getModifiers()), true);
        Set<String> shown = new TreeSet<>();
        for (Method m : DocFormat.class.getDeclaredMethods()) {
            if (!Modifier.isPrivate(m.getModifiers())) {
                StringBuilder types = new StringBuilder();
                for (Class<?> c : m.getParameterTypes()) {
                    types.append(types.length() == 0 ? "" : ",").append(c.getName());
                }
                shown.add(m.getName() + "(" + types + ")");
                Desk.due(m.getName() + " is public", Modifier.isPublic(m.getModifiers()), true);
                Desk.due(m.getName() + " answers", m.getReturnType().getName(), "int");
            }
        }
        Desk.due("methods", shown, FACE);
        Set<String> fields = new TreeSet<>();
        for (Field f : DocFormat.class.getDeclaredFields()) {
            if (!Modifier.isPrivate(f.getModifiers())) {
                fields.add(f.getName());
            }
        }
        Desk.due("fields", fields, new TreeSet<>(List.of("NONE", "BAD", "STATE", "FULL")));
        Constructor<?>[] constructors = DocFormat.class.getDeclaredConstructors();
        Desk.due("constructors", constructors.length, 1);
        Desk.due("its parameters", constructors[0].getParameterCount(), 0);
    }

    private static void nested() {
        Class<?>[] classes = DocFormat.class.getDeclaredClasses();
        Desk.due("at most twelve classes", classes.length + 1 <= 12, true);
        for (Class<?> c : classes) {
            Desk.due(c + " is static", Modifier.isStatic(c.getModifiers()), true);
            Desk.due(c + " is private", Modifier.isPrivate(c.getModifiers()), true);
            lookInto(c);
        }
        lookInto(DocFormat.class);
    }

    private static void lookInto(Class<?> c) {
        long fields = Arrays.stream(c.getDeclaredFields()).filter(f -> !Modifier.isStatic(f.getModifiers())).count();
        Desk.due(c + " has at most twenty fields", fields <= 20, true);
        for (Field f : c.getDeclaredFields()) {
            boolean constant = Modifier.isFinal(f.getModifiers())
                    && (f.getType() == int.class || f.getType() == String.class);
            Desk.due(f + " is no static state", !Modifier.isStatic(f.getModifiers()) || constant, true);
        }
        for (Method m : c.getDeclaredMethods()) {
            Desk.due(m + " has at most seven parameters", m.getParameterCount() <= 7, true);
            boolean named = FACE.stream().anyMatch(f -> f.startsWith(m.getName() + "("));
            Desk.due(m + " has a name of its own", !named || Modifier.isPublic(m.getModifiers()), true);
        }
    }

    private static void words() throws IOException {
        String text = Files.readString(Path.of("src/main/java/DocFormat.java"));
        String bare = text.replaceAll("(?s)/\\*.*?\\*/", "").replaceAll("//[^\n]*", "")
                .replaceAll("\"[^\"\n]*\"", "\"\"").replaceAll("'(\\\\.|[^'])'", "' '");
        Matcher m = Pattern.compile("\\b(throw|try|catch|finally|synchronized|assert|import|package|Exact|goto|var)\\b"
                + "|->|::|\\bSystem\\.(?!arraycopy)|\\bequals\\(|\\bhashCode\\(|\\btoString\\(").matcher(bare);
        Desk.due("forbidden word", m.find() ? m.group() : "none", "none");
    }
}
