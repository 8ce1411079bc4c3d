import java.io.IOException;
import java.lang.reflect.Constructor;
import java.lang.reflect.Field;
import java.lang.reflect.Method;
import java.lang.reflect.Modifier;
import java.nio.charset.StandardCharsets;
import java.nio.file.Files;
import java.nio.file.Path;
import java.util.Arrays;
import java.util.List;
import java.util.Set;
import java.util.TreeSet;
import java.util.regex.Matcher;
import java.util.regex.Pattern;

/** The face of the document, and what of LANGUAGE.md can be seen in the text. Takes the project's folder. */
public final class LanguageTest {
    private static final String FACE = """
            int wheel(int,int); int turn(int,int); int least(int); int steps(int); int size(int); int even(int);
            int rings(); int ringOf(int); int ring(int); int below(int); int content(int,int,int,int,int);
            int factor(int,int); int sum(int); int go(int); int right(); int exchange(int,int); int back();
            int cycles(); int cycleOf(int); int cycle(int,int); int join(); int round(int); int letter(int);
            int place(int); int way(int,int); int tape(int,int,int); int lose(int); int put(int,int,int,int);
            int get(int,int,int); int copy(int,int,int,int,int); int print(int,int,int,int); int find(int,int,int,int);
            int found(); int twice(int); int parts(int); int part(int); int recurrence(int); int coefficient(int);
            int count(int); long digest()""";
    private static final List<String> BANNED = List.of("throw", "throws", "try", "catch", "synchronized", "assert",
            "protected", "volatile", "transient", "native", "var", "Object", "System.out", "Exact", "hashCode", "equals",
            "toString", "Random", "Thread", "File", "nanoTime", "currentTimeMillis", "record", "sealed");

    public static void main(String[] args) throws IOException {
        Path root = Path.of(args.length > 0 ? args[0] : ".");
        String text = Files.readString(root.resolve("src/main/java/WordWheel.java"), StandardCharsets.UTF_8);
        String code = text.replaceAll("(?s)/\\*.*?\\*/", "").replaceAll("//[^\n]*", "");
        face();
        constants();
        namesInside();
        words(text, code);
        methods(code);
        Due.end();
    }

    private static void face() {
        Due.due("rule 1: public and final", Modifier.isPublic(WordWheel.class.getModifiers())
                && Modifier.isFinal(WordWheel.class.getModifiers()) && WordWheel.class.getPackageName().isEmpty());
        Set<String> due = new TreeSet<>(Arrays.asList(FACE.replaceAll("\\s+", " ").split("; ?")));
        Set<String> got = new TreeSet<>();
        for (Method method : WordWheel.class.getDeclaredMethods()) {
            if (!Modifier.isPrivate(method.getModifiers())) {
                StringBuilder types = new StringBuilder();
                for (Class<?> type : method.getParameterTypes()) {
                    types.append(types.length() == 0 ? "" : ",").append(type.getName());
                }
                got.add(method.getReturnType().getName() + " " + method.getName() + "(" + types + ")");
                Due.due("rule 1: public " + method, method.getModifiers() == Modifier.PUBLIC);
            }
        }
        Due.due("rule 1: methods " + got, got.equals(due));
        Constructor<?>[] constructors = WordWheel.class.getDeclaredConstructors();
        Due.due("rule 1: one constructor", constructors.length == 1 && constructors[0].getParameterCount() == 0
                && constructors[0].getModifiers() == Modifier.PUBLIC);
    }

    private static void constants() {
        Set<String> got = new TreeSet<>();
        for (Field field : WordWheel.class.getDeclaredFields()) {
            if (!Modifier.isPrivate(field.getModifiers())) {
                got.add(field.getName());
            }
        }
        Due.due("rule 1: constants " + got, got.equals(Set.of("NONE", "BAD", "NOT", "FULL")));
        Due.due("NONE", WordWheel.NONE, -1);
        Due.due("BAD", WordWheel.BAD, -2);
        Due.due("NOT", WordWheel.NOT, -3);
        Due.due("FULL", WordWheel.FULL, -4);
    }

    private static void namesInside() {
        Set<String> open = new TreeSet<>();
        for (Method method : WordWheel.class.getMethods()) {
            open.add(method.getName());
        }
        checkNames(WordWheel.class, open, true);
        Class<?>[] inside = WordWheel.class.getDeclaredClasses();
        Due.due("rule 11: classes", inside.length <= 12);
        for (Class<?> one : inside) {
            Due.due("rule 2: static " + one, Modifier.isStatic(one.getModifiers()));
            Due.due("rule 1: not public " + one, !Modifier.isPublic(one.getModifiers()));
            checkNames(one, open, false);
        }
    }

    private static void checkNames(Class<?> one, Set<String> open, boolean outer) {
        for (Method method : one.getDeclaredMethods()) {
            boolean ofFace = outer && Modifier.isPublic(method.getModifiers());
            Due.due("rule 1: name of " + method, ofFace || !open.contains(method.getName()));
            Due.due("rule 11: parameters of " + method, method.getParameterCount() <= 7);
        }
        int fields = 0;
        for (Field field : one.getDeclaredFields()) {
            boolean isStatic = Modifier.isStatic(field.getModifiers());
            fields += isStatic ? 0 : 1;
            Due.due("rule 5: final " + field, !isStatic || Modifier.isFinal(field.getModifiers()));
        }
        Due.due("rule 11: fields of " + one, fields <= 20);
    }

    private static void words(String text, String code) {
        for (String word : BANNED) {
            Due.due("banned: " + word, !Pattern.compile("\\b" + Pattern.quote(word) + "\\b").matcher(code).find());
        }
        Due.due("rule 2: no lambda, no method reference", !code.contains("->") && !code.contains("::"));
        Due.due("plain characters", text.chars().allMatch(c -> c == '\n' || c >= 32 && c < 127));
        Due.due("no package", !Pattern.compile("(?m)^package ").matcher(code).find());
        Matcher imports = Pattern.compile("(?m)^import (.*);").matcher(code);
        while (imports.find()) {
            Due.due("rule 4: import " + imports.group(1),
                    List.of("java.util.Arrays", "java.util.ArrayList", "java.util.List").contains(imports.group(1)));
        }
        Matcher calls = Pattern.compile("\\b(Arrays|Math|System|Long|Integer)\\.(\\w+)").matcher(code);
        Set<String> allowed = Set.of("Arrays.fill", "Arrays.copyOf", "Arrays.copyOfRange", "System.arraycopy", "Math.min",
                "Math.max", "Math.abs", "Math.floorMod", "Math.floorDiv", "Long.bitCount", "Integer.MIN_VALUE");
        while (calls.find()) {
            Due.due("rule 4: " + calls.group(), allowed.contains(calls.group()));
        }
    }

    /** Methods stay short, and make no objects: only fields and the public constructor do. */
    private static void methods(String code) {
        Matcher method = Pattern.compile("(?ms)^( +)(?:public|private) [^;=\\n]*?(\\w+)\\([^;=]*?\\) \\{$(.*?)^\\1\\}$").matcher(code);
        int methods = 0;
        while (method.find()) {
            String name = method.group(2);
            String body = method.group(3);
            methods++;
            Due.due("rule 11: length of " + name, body.split("\n").length <= 60);
            Due.due("rule 12: " + name + " makes an object", name.equals("WordWheel") || !body.contains("new "));
        }
        Due.due("methods were looked at", methods > 80);
    }
}
