import java.lang.reflect.Constructor;
import java.lang.reflect.Field;
import java.lang.reflect.Method;
import java.lang.reflect.Modifier;
import java.nio.file.Files;
import java.nio.file.Path;
import java.util.ArrayList;
import java.util.List;
import java.util.Set;
import java.util.TreeSet;

/** The rules of LANGUAGE.md that can be seen in the source or in the compiled class, and the document's face. */
public final class LanguageTest {
    private static final String[] FACE = {"write/1", "wipe/0", "fault/1", "consult/0", "retract/1", "move/2", "undo/0",
        "told/1", "clause/2", "listing/2", "overlaps/1", "reaches/2", "ask/0", "run/1", "stop/0", "state/1", "variable/2",
        "value/2", "goal/1", "frame/2", "choice/2"};
    private static final String[] BANNED_WORDS = {"throw", "throws", "try", "catch", "finally", "synchronized", "assert", "abstract",
        "protected", "native", "volatile", "String", "Object", "System", "Random", "Thread", "hashCode", "equals", "toString",
        "instanceof", "record", "while(true)", "goto"};
    private static final Set<String> LIBRARY = Set.of("Arrays.fill", "Arrays.copyOf", "Math.min", "Math.max", "Math.abs",
        "Integer.bitCount");

    private static int wrong;

    public static void main(String[] args) throws Exception {
        String source = withoutComments(Files.readString(Path.of("src/main/java/LogicMachine.java")));
        words(source);
        library(source);
        methodLengths(source);
        face();
        inside();
        System.out.println("LanguageTest: " + wrong + " rules broken");
        if (wrong != 0) {
            System.exit(1);
        }
    }

    private static void must(boolean holds, String what) {
        if (!holds) {
            wrong++;
            System.out.println("LanguageTest: " + what);
        }
    }

    private static String withoutComments(String source) {
        must(source.chars().allMatch(c -> c >= 1 && c <= 127), "a sign beyond 127 in the source");
        return source.replaceAll("(?s)/\\*.*?\\*/", " ").replaceAll("//[^\n]*", " ");
    }

    private static void words(String source) {
        must(!source.contains("\""), "a text constant is not needed");
        String bare = source.replaceAll("'(\\\\.|[^'])'", "' '");
        Set<String> used = new TreeSet<>(List.of(bare.split("[^A-Za-z0-9_]+")));
        for (String word : BANNED_WORDS) {
            must(!used.contains(word), "the word " + word);
        }
        must(!bare.contains("->") && !bare.contains("::"), "a lambda or a method reference");
        must(!bare.matches("(?s).*new \\w+\\([^;{}]*\\)\\s*\\{.*"), "an anonymous class");
        must(!bare.matches("(?s).*\\bstatic\\s*\\{.*"), "a static block");
        must(!bare.contains("while (true)") && !bare.contains("for (;;)"), "a loop without an end");
        must(!bare.contains("package "), "a package line");
    }

    private static void library(String source) {
        for (String line : source.split("\n")) {
            must(!line.startsWith("import ") || line.equals("import java.util.Arrays;"), line);
        }
        java.util.regex.Matcher calls = java.util.regex.Pattern.compile("\\b(Arrays|Math|Integer|Long)\\.(\\w+)").matcher(source);
        while (calls.find()) {
            must(LIBRARY.contains(calls.group()), "the call of " + calls.group());
        }
    }

    private static void methodLengths(String source) {
        String[] lines = source.split("\n");
        for (int i = 0; i < lines.length; i++) {
            String line = lines[i];
            if (!line.matches(" {4}( {4})?[A-Za-z].*\\(.*\\) \\{")) {
                continue;
            }
            String end = line.substring(0, line.length() - line.stripLeading().length()) + "}";
            int last = i;
            while (!lines[last].equals(end)) {
                last++;
            }
            must(last - i + 1 <= 60, "a long method: " + line.strip());
        }
    }

    private static void face() {
        Class<?> type = LogicMachine.class;
        must(Modifier.isPublic(type.getModifiers()) && Modifier.isFinal(type.getModifiers()), "the class is public and final");
        Set<String> open = new TreeSet<>();
        for (Method m : type.getDeclaredMethods()) {
            if (!Modifier.isPrivate(m.getModifiers())) {
                must(Modifier.isPublic(m.getModifiers()) && !Modifier.isStatic(m.getModifiers()), m.toString());
                must(m.getReturnType() == int.class, m + " returns an int");
                open.add(m.getName() + "/" + m.getParameterCount());
            }
        }
        must(open.equals(new TreeSet<>(List.of(FACE))), "the methods are " + open);
        Set<String> constants = new TreeSet<>();
        for (Field f : type.getDeclaredFields()) {
            if (!Modifier.isPrivate(f.getModifiers())) {
                constants.add(f.getName());
                must(f.getModifiers() == (Modifier.PUBLIC | Modifier.STATIC | Modifier.FINAL), f.toString());
            }
        }
        must(constants.equals(Set.of("BAD", "STATE", "FULL", "NONE")), "the constants are " + constants);
        must(type.getDeclaredConstructors().length == 1, "one constructor");
        must(type.getDeclaredConstructors()[0].getParameterCount() == 0, "a constructor without parameters");
    }

    private static void inside() {
        Set<String> names = new TreeSet<>();
        for (String entry : FACE) {
            names.add(entry.substring(0, entry.indexOf('/')));
        }
        List<Class<?>> all = new ArrayList<>(List.of(LogicMachine.class.getDeclaredClasses()));
        must(all.size() <= 11, "too many classes");
        for (Class<?> type : all) {
            must(Modifier.isStatic(type.getModifiers()) && Modifier.isFinal(type.getModifiers()), type + " is static and final");
            must(!Modifier.isPublic(type.getModifiers()), type + " is not public");
            must(type.getDeclaredClasses().length == 0, type + " has classes inside");
            for (Method m : type.getDeclaredMethods()) {
                must(!names.contains(m.getName()), m + " bears the name of a public method");
            }
        }
        all.add(LogicMachine.class);
        for (Class<?> type : all) {
            members(type);
        }
    }

    private static void members(Class<?> type) {
        int fields = 0;
        for (Field f : type.getDeclaredFields()) {
            boolean isStatic = Modifier.isStatic(f.getModifiers());
            must(!isStatic || Modifier.isFinal(f.getModifiers()) && f.getType().isPrimitive(), f + " is no constant");
            fields += isStatic ? 0 : 1;
        }
        must(fields <= 20, type + " has " + fields + " fields");
        for (Method m : type.getDeclaredMethods()) {
            must(m.getParameterCount() <= 7, m + " has too many parameters");
        }
        for (Constructor<?> c : type.getDeclaredConstructors()) {
            must(c.getParameterCount() <= 7, c + " has too many parameters");
        }
    }
}
