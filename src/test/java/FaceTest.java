import java.io.IOException;
import java.lang.reflect.Constructor;
import java.lang.reflect.Field;
import java.lang.reflect.Method;
import java.lang.reflect.Modifier;
import java.nio.file.Files;
import java.nio.file.Path;
import java.util.ArrayList;
import java.util.HashSet;
import java.util.List;
import java.util.Set;
import java.util.TreeSet;
import java.util.regex.Matcher;
import java.util.regex.Pattern;

/** The public face of the document, and the rules of LANGUAGE.md that a program can look at. */
final class FaceTest {
    private static final String[] FACE = {
        "int work(int)", "int put(int,int,int)", "int ahead(int,int,boolean)", "int change(int,int,int)",
        "int best(int,int)", "int lastFirst(int)", "int onTime()", "int broken(int)", "int minute(int)",
        "int next(int)", "int anew()", "int judge(int)", "int benches(int)", "int needs(int,int,int)",
        "int way(int,int)", "int byRule(int)", "int bestRow(int)", "int bound()", "int any()",
        "int step(int,int,int)", "int clear()", "int walk()", "int leaf(int)", "int fell()", "int likes(int)",
        "int levels(int)", "int least(int)", "int count(int)", "long digest()"};
    private static final String[] FORBIDDEN = {
        "throw", "throws", "try", "catch", "synchronized", "assert", "volatile", "transient", "native",
        "protected", "package", "Exact", "Object", "Random", "Thread", "hashCode", "toString", "equals"};

    public static void main(String[] args) throws IOException {
        face();
        asTheDocumentSays();
        inside();
        text();
        Due.end();
    }

    private static void face() {
        Set<String> found = new TreeSet<>();
        for (Method method : WorkOrders.class.getDeclaredMethods()) {
            if (Modifier.isPrivate(method.getModifiers())) {
                continue;
            }
            Due.holds(method + " is public, not static", Modifier.isPublic(method.getModifiers())
                    && !Modifier.isStatic(method.getModifiers()));
            found.add(told(method));
        }
        Due.holds("the methods are those of the document: " + found, found.equals(new TreeSet<>(Set.of(FACE))));
        Due.holds("the class is public and final", Modifier.isPublic(WorkOrders.class.getModifiers())
                && Modifier.isFinal(WorkOrders.class.getModifiers()));
        Constructor<?>[] made = WorkOrders.class.getDeclaredConstructors();
        Due.holds("one public constructor without arguments", made.length == 1
                && Modifier.isPublic(made[0].getModifiers()) && made[0].getParameterCount() == 0);
        Set<String> constants = new TreeSet<>();
        for (Field field : WorkOrders.class.getDeclaredFields()) {
            if (!Modifier.isPrivate(field.getModifiers())) {
                constants.add(field.getName());
            }
        }
        Due.holds("the constants are those of the document: " + constants,
                constants.equals(Set.of("NONE", "BAD", "NO", "FULL")));
        Due.is("NONE", WorkOrders.NONE, -1);
        Due.is("BAD", WorkOrders.BAD, -2);
        Due.is("NO", WorkOrders.NO, -3);
        Due.is("FULL", WorkOrders.FULL, -4);
    }

    /** The document tells the face twice, as a whole and ahead of each promise, and its parts by calls. */
    private static void asTheDocumentSays() throws IOException {
        List<String> whole = new ArrayList<>();
        List<String> byPromise = new ArrayList<>();
        String parts = "";
        for (String line : Files.readAllLines(Path.of("../shared/DOC.md"))) {
            if (line.matches(" {4}public (int|long) \\w+\\(.*\\);")) {
                whole.add(withoutNames(line.trim().replace("public ", "").replace(";", "")));
            } else if (line.matches("`(int|long) \\w+\\(.*\\)`: .*")) {
                byPromise.add(withoutNames(line.substring(1, line.indexOf(")`") + 1)));
            } else if (line.startsWith("Ahead of the calls ")) {
                parts += part(line) + "\n";
            }
        }
        Due.holds("the face as a whole: " + whole, whole.equals(List.of(FACE)));
        Due.holds("the face by promises: " + byPromise, byPromise.equals(List.of(FACE)));
        Due.holds("the parts of the face: " + parts, parts.equals(partsOfTheClass()));
    }

    private static String withoutNames(String signature) {
        return signature.replaceAll("(int|boolean) \\w+(?=[,)])", "$1").replace(", ", ",");
    }

    /** The name of a part, and its calls. */
    private static String part(String line) {
        StringBuilder part = new StringBuilder(line.replaceAll(".*says: |\\.$", ""));
        Matcher call = Pattern.compile("`(\\w+)`").matcher(line);
        while (call.find()) {
            part.append(' ').append(call.group(1));
        }
        return part.toString();
    }

    private static String partsOfTheClass() throws IOException {
        StringBuilder parts = new StringBuilder();
        for (String line : Files.readAllLines(Path.of("src/main/java/WorkOrders.java"))) {
            Matcher call = Pattern.compile("^ {4}public (int|long) (\\w+)\\(.*").matcher(line);
            if (line.startsWith("    // ----")) {
                parts.append(parts.length() == 0 ? "" : "\n").append(line.substring(7));
            } else if (call.matches()) {
                parts.append(' ').append(call.group(2));
            }
        }
        return parts.append('\n').toString();
    }

    private static String told(Method method) {
        StringBuilder text = new StringBuilder();
        for (Class<?> type : method.getParameterTypes()) {
            text.append(text.length() == 0 ? "" : ",").append(type.getName());
        }
        return method.getReturnType().getName() + " " + method.getName() + "(" + text + ")";
    }

    private static void inside() {
        Set<String> names = new HashSet<>();
        for (String line : FACE) {
            names.add(line.substring(line.indexOf(' ') + 1, line.indexOf('(')));
        }
        Class<?>[] classes = WorkOrders.class.getDeclaredClasses();
        Due.holds("at most twelve classes", classes.length + 1 <= 12);
        for (Class<?> inner : classes) {
            Due.holds(inner + " is static and not public", Modifier.isStatic(inner.getModifiers())
                    && !Modifier.isPublic(inner.getModifiers()) && !Modifier.isProtected(inner.getModifiers()));
            for (Method method : inner.getDeclaredMethods()) {
                Due.holds(method + " bears no name of the face", !names.contains(method.getName()));
                Due.holds(method + " has at most seven parameters", method.getParameterCount() <= 7);
            }
            fields(inner);
        }
        for (Method method : WorkOrders.class.getDeclaredMethods()) {
            Due.holds(method + " bears no name of the face", Modifier.isPublic(method.getModifiers())
                    || !names.contains(method.getName()));
        }
        fields(WorkOrders.class);
    }

    private static void fields(Class<?> type) {
        int own = 0;
        for (Field field : type.getDeclaredFields()) {
            if (Modifier.isStatic(field.getModifiers())) {
                Class<?> of = field.getType();
                Due.holds(field + " is final", Modifier.isFinal(field.getModifiers()));
                Due.holds(field + " is a constant as allowed", of == int.class || of == long.class
                        || of == boolean.class || of == char.class || of == String.class || of == int[].class);
            } else {
                own++;
            }
        }
        Due.holds(type + " has at most twenty fields", own <= 20);
    }

    private static void text() throws IOException {
        String text = Files.readString(Path.of("src/main/java/WorkOrders.java"));
        for (int i = 0; i < text.length(); i++) {
            if (text.charAt(i) > 127) {
                Due.holds("a sign beyond 127 at " + i, false);
            }
        }
        String code = text.replaceAll("(?s)/\\*.*?\\*/", "").replaceAll("//[^\n]*", "");
        for (String word : FORBIDDEN) {
            Due.holds("no " + word, !Pattern.compile("\\b\\w*?" + word + "\\b").matcher(code).find());
        }
        Due.holds("no lambda", !code.contains("->"));
        Due.holds("no method reference", !code.contains("::"));
        Due.holds("no annotation", !code.contains("@"));
        Due.is("one import", code.split("\\bimport\\b", -1).length - 1, 1);
        Due.holds("it is Arrays", code.contains("import java.util.Arrays;"));
        Matcher library = Pattern.compile("\\b(Math|Arrays|Integer|Long|System)\\.(\\w+)").matcher(code);
        Set<String> used = new TreeSet<>();
        while (library.find()) {
            used.add(library.group());
        }
        Due.holds("only these of the library: " + used, Set.of("Math.max", "Math.min", "Arrays.fill",
                "Integer.bitCount", "Integer.numberOfTrailingZeros", "System.arraycopy").containsAll(used));
        methodsAreShort(text);
    }

    /** A method begins at a line that ends in ") {" four or eight signs in, and ends at its brace. */
    private static void methodsAreShort(String text) {
        String[] lines = text.split("\n");
        for (int i = 0; i < lines.length; i++) {
            Matcher head = Pattern.compile("^( {4}| {8})(?! )\\S.*\\) \\{$").matcher(lines[i]);
            if (!head.find()) {
                continue;
            }
            int end = i;
            while (end < lines.length && !lines[end].equals(head.group(1) + "}")) {
                end++;
            }
            Due.holds("short: " + lines[i].trim(), end - i < 60);
        }
    }
}
