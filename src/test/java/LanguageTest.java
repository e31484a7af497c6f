import java.io.IOException;
import java.lang.reflect.Field;
import java.lang.reflect.Method;
import java.lang.reflect.Modifier;
import java.nio.file.Files;
import java.nio.file.Path;
import java.util.List;
import java.util.Set;
import java.util.TreeSet;
import java.util.regex.Matcher;
import java.util.regex.Pattern;

/** The face of the document, and the rules of LANGUAGE.md as far as a machine can see them. */
public final class LanguageTest {
    private static final Check CHECK = new Check("LanguageTest");
    private static final String[] FACE = {
        "int feed(long, int)", "int city()", "int set(int, int)", "int lawOf(int)", "int air(int, int, int, int)",
        "int of(int, int)", "int mind(int, int, int)", "int bring(int, int)", "int send(int, int)", "int blow(int)",
        "int pour(int, int)", "int house(int, int)", "int steps(int)", "int seed(int)", "int step()", "int blown(int)",
        "int state(int)", "int where(int, int)", "int stops(int)", "int meets(int, int)", "int told(int)",
        "int off(int, int)", "int windFor(int, int)", "int kindFor(int, int)", "int seen(int)", "int dryWay(int, int)",
        "int fits(int, int, int)", "long odds(int, int, int)", "long hope(int, int)", "int prove(int, int)",
        "int row(int, int)", "int alterRow(int, int, int)", "int judge(int)", "int minds(int, int, int, int)",
        "int sheet(int, int, int)", "int put(int, int, int)", "int item(int, int, int)", "int shelf(int, int, int)",
        "int taken(int, int)", "int act(int, int, int)", "int trace(int)", "int many(int)", "int keep()", "int again()"};
    private static final List<String> FORBIDDEN = List.of("throw", "throws", "try", "catch", "synchronized", "assert",
        "volatile", "native", "transient", "strictfp", "Exception", "Error", "Thread", "Random", "hashCode", "equals",
        "toString", "getClass", "Object", "System.out", "nanoTime", "currentTimeMillis", "interface", "record");

    public static void main(String[] args) throws IOException {
        constants();
        face();
        insides();
        source(Files.readString(Path.of(System.getProperty("doc.source", "src/main/java/WeatherDisguise.java"))));
        CHECK.end();
    }

    private static void constants() {
        CHECK.due("BAD", WeatherDisguise.BAD, -1);
        CHECK.due("FULL", WeatherDisguise.FULL, -2);
        CHECK.due("NONE", WeatherDisguise.NONE, -3);
    }

    private static void face() {
        Set<String> due = new TreeSet<>(List.of(FACE));
        Set<String> got = new TreeSet<>();
        for (Method m : WeatherDisguise.class.getDeclaredMethods()) {
            CHECK.holds(m.getName() + " is public or private",
                Modifier.isPublic(m.getModifiers()) || Modifier.isPrivate(m.getModifiers()));
            if (Modifier.isPublic(m.getModifiers())) {
                StringBuilder told = new StringBuilder();
                for (Class<?> type : m.getParameterTypes()) {
                    told.append(told.length() == 0 ? "" : ", ").append(type);
                }
                got.add(m.getReturnType() + " " + m.getName() + "(" + told + ")");
                CHECK.holds(m.getName() + " is not static", !Modifier.isStatic(m.getModifiers()));
            }
        }
        CHECK.holds("the face: " + got, got.equals(due));
        CHECK.holds("the class is public and final", Modifier.isPublic(WeatherDisguise.class.getModifiers())
            && Modifier.isFinal(WeatherDisguise.class.getModifiers()));
        CHECK.due("constructors", WeatherDisguise.class.getDeclaredConstructors().length, 1);
        CHECK.holds("its constructor is public",
            Modifier.isPublic(WeatherDisguise.class.getDeclaredConstructors()[0].getModifiers()));
        for (Field f : WeatherDisguise.class.getDeclaredFields()) {
            boolean isConstant = Set.of("BAD", "FULL", "NONE").contains(f.getName());
            CHECK.holds(f.getName() + " is private, or a constant of the face",
                isConstant ? Modifier.isPublic(f.getModifiers()) : Modifier.isPrivate(f.getModifiers()));
        }
    }

    private static void insides() {
        Set<String> publicNames = new TreeSet<>();
        for (String told : FACE) {
            publicNames.add(told.substring(told.indexOf(' ') + 1, told.indexOf('(')));
        }
        Class<?>[] inside = WeatherDisguise.class.getDeclaredClasses();
        CHECK.holds("some twelve classes at most", inside.length < 12);
        for (Class<?> c : inside) {
            CHECK.holds(c + " is static and not public",
                Modifier.isStatic(c.getModifiers()) && !Modifier.isPublic(c.getModifiers()));
            for (Method m : c.getDeclaredMethods()) {
                CHECK.holds(m + " bears no name of the face", !publicNames.contains(m.getName()));
            }
            fields(c);
        }
        for (Method m : WeatherDisguise.class.getDeclaredMethods()) {
            CHECK.holds(m + " bears no name of the face",
                Modifier.isPublic(m.getModifiers()) || !publicNames.contains(m.getName()));
            CHECK.holds(m + " takes at most seven", m.getParameterCount() <= 7);
        }
        fields(WeatherDisguise.class);
    }

    private static void fields(Class<?> c) {
        int own = 0;
        for (Field f : c.getDeclaredFields()) {
            boolean isStatic = Modifier.isStatic(f.getModifiers());
            own += isStatic ? 0 : 1;
            CHECK.holds(f + " is final, if static", !isStatic || Modifier.isFinal(f.getModifiers()));
        }
        CHECK.holds(c + " has some twenty fields at most", own <= 20);
    }

    private static void source(String text) {
        String code = text.replaceAll("(?s)/\\*.*?\\*/", "").replaceAll("//[^\n]*", "")
            .replaceAll("\"(\\\\.|[^\"\\\\])*\"", "\"\"");
        for (String word : FORBIDDEN) {
            Matcher m = Pattern.compile("\\b" + Pattern.quote(word) + "\\b").matcher(code);
            CHECK.holds("there is no '" + word + "'", !m.find());
        }
        CHECK.holds("no lambda, no method reference", !code.contains("->") && !code.contains("::"));
        CHECK.holds("no package line", !code.contains("package "));
        CHECK.holds("no endless loop", !code.matches("(?s).*while \\(true\\).*|.*for \\(;;\\).*"));
        Matcher imports = Pattern.compile("import ([^;]*);").matcher(code);
        while (imports.find()) {
            CHECK.holds("import " + imports.group(1), Set.of("java.util.Arrays", "java.util.ArrayList",
                "java.util.List", "java.util.Iterator").contains(imports.group(1)));
        }
        for (char c : text.toCharArray()) {
            CHECK.holds("every sign is of ASCII", c < 128);
        }
        methodsAreShort(text);
    }

    /** A method begins with a line that ends in ") {" at its class's depth, and ends with the brace at that depth. */
    private static void methodsAreShort(String text) {
        String[] lines = text.split("\n");
        int methods = 0;
        for (int i = 0; i < lines.length; i++) {
            Matcher head = Pattern.compile("^( {4}| {8})[a-zA-Z].*\\) \\{$").matcher(lines[i]);
            boolean isHead = head.find() && !lines[i].trim().matches("(if|for|while|switch|else).*");
            int end = i;
            while (isHead && end < lines.length && !lines[end].equals(head.group(1) + "}")) {
                end++;
            }
            methods += isHead ? 1 : 0;
            CHECK.holds("some sixty lines at most: " + lines[i].trim(), end - i <= 60);
        }
        CHECK.holds("there are methods", methods > 100);
    }
}
