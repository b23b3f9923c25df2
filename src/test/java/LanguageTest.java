import java.io.IOException;
import java.lang.reflect.Field;
import java.lang.reflect.Method;
import java.lang.reflect.Modifier;
import java.nio.charset.StandardCharsets;
import java.nio.file.Files;
import java.nio.file.Path;
import java.util.ArrayList;
import java.util.List;
import java.util.TreeSet;

/** The document's face, and those rules of LANGUAGE.md that can be seen from outside. */
final class LanguageTest {
    private static final Check c = new Check();
    private static final String[] FACE = {
        "int street(int)", "int worth(int,int)", "int sort(int,int)", "int set(int,int)",
        "int does(int,int,int,int)", "int chance(int,int,int,int)", "int anew()",
        "int event(int,int,int)", "long think(int,int)", "int held()", "int fair(int)",
        "int apart()", "int calls(int,int)", "int day(int,int,int,int)", "long mean(int)",
        "long stuck(int)", "long limit(int)", "long best(int,int,int)", "int bestWay(int,int)",
        "long beside(int,int,int,int)", "int rest(int,int)", "int streets(int,int,int,int)",
        "long knew(int,int,int,int)", "int image()", "int restore()", "int count(int)",
        "int keep(int,int,int,int)", "int row(int,int,int)", "int put(int,int,int)",
        "long element(int,int)", "int copy(int,int,int,int,int)", "int spread(int)",
        "int toss(int)"};
    private static final String[] FORBIDDEN = {
        "->", "::", "@", "synchronized", "assert ", "finally", "static {", " var ", "record ",
        "System.out", "Math.random", ".getMessage", "Exact(", "hashCode", "toString", "package "};

    public static void main(String[] args) throws IOException {
        face();
        members();
        String source = Files.readString(
            Path.of("src/main/java/BothPrices.java"), StandardCharsets.ISO_8859_1);
        words(source);
        methodLengths(source);
        c.end();
    }

    private static void yes(String what, boolean is) {
        c.due(what, is ? 1 : 0, 1);
    }

    private static void face() {
        TreeSet<String> due = new TreeSet<>(List.of(FACE));
        TreeSet<String> found = new TreeSet<>();
        for (Method method : BothPrices.class.getDeclaredMethods()) {
            if (!Modifier.isPrivate(method.getModifiers()) && !method.isSynthetic()) {
                StringBuilder told = new StringBuilder(
                    method.getReturnType() + " " + method.getName() + "(");
                for (Class<?> type : method.getParameterTypes()) {
                    told.append(told.charAt(told.length() - 1) == '(' ? "" : ",").append(type);
                }
                found.add(told.append(")").toString());
                yes(method + " is public", Modifier.isPublic(method.getModifiers()));
            }
        }
        yes("the face " + due + " is " + found, due.equals(found));
        int modifiers = BothPrices.class.getModifiers();
        yes("the class is public", Modifier.isPublic(modifiers));
        yes("the class is final", Modifier.isFinal(modifiers));
        c.due("constructors", BothPrices.class.getDeclaredConstructors().length, 1);
        c.due("public constructors", BothPrices.class.getConstructors().length, 1);
        for (Field field : BothPrices.class.getDeclaredFields()) {
            yes(field + " is private", Modifier.isPrivate(field.getModifiers()));
        }
    }

    private static void members() {
        TreeSet<String> names = new TreeSet<>();
        for (String call : FACE) {
            names.add(call.substring(call.indexOf(' ') + 1, call.indexOf('(')));
        }
        List<Class<?>> all = new ArrayList<>(List.of(BothPrices.class.getDeclaredClasses()));
        yes("some twelve classes inside", all.size() <= 12);
        for (Class<?> inside : all) {
            yes(inside + " is static", Modifier.isStatic(inside.getModifiers()));
            yes(inside + " isn't public", !Modifier.isPublic(inside.getModifiers()));
        }
        all.add(BothPrices.class);
        for (Class<?> one : all) {
            int fields = 0;
            for (Field field : one.getDeclaredFields()) {
                boolean isStatic = Modifier.isStatic(field.getModifiers());
                fields += isStatic ? 0 : 1;
                yes(field + " is final", !isStatic || Modifier.isFinal(field.getModifiers()));
            }
            yes("some twenty fields in " + one, fields <= 20);
            for (Method method : one.getDeclaredMethods()) {
                yes("parameters of " + method, method.getParameterCount() <= 7);
                yes("the name of " + method, Modifier.isPublic(method.getModifiers())
                    || !names.contains(method.getName()));
            }
        }
    }

    private static void words(String source) {
        for (String word : FORBIDDEN) {
            c.due("place of " + word, source.indexOf(word), -1);
        }
        for (int i = 0; i < source.length(); i++) {
            if (source.charAt(i) > 126) {
                c.due("sign at " + i, source.charAt(i), '?');
            }
        }
        for (String line : source.split("\n")) {
            if (line.startsWith("import ")) {
                yes(line, line.equals("import java.util.Arrays;"));
            }
            if (line.contains("catch (")) {
                yes(line, line.contains("catch (IllegalStateException "));
            }
            if (line.contains("throw new ")) {
                yes(line, line.contains("IllegalStateException(\"")
                    || line.contains("IllegalArgumentException(\""));
            }
            yes("no line is wider than 100: " + line, line.length() <= 100);
        }
    }

    /** A method begins where a line ends with { at a depth of 1 or 2, and has ( in it. */
    private static void methodLengths(String source) {
        String[] lines = source.split("\n");
        for (int i = 0; i < lines.length; i++) {
            String line = lines[i];
            boolean begins = line.matches("( {4}| {8})[a-zA-Z].*\\{")
                && !line.contains(" class ") && line.contains("(");
            if (begins) {
                String end = line.substring(0, line.length() - line.stripLeading().length()) + "}";
                int length = 1;
                while (i + length < lines.length && !lines[i + length].equals(end)) {
                    length++;
                }
                yes("the length of " + line + " " + length, length <= 60);
            }
        }
    }
}
