import java.io.IOException;
import java.lang.reflect.Array;
import java.lang.reflect.Field;
import java.lang.reflect.Method;
import java.lang.reflect.Modifier;
import java.nio.file.Files;
import java.nio.file.Path;
import java.util.ArrayDeque;
import java.util.Collections;
import java.util.IdentityHashMap;
import java.util.LinkedHashMap;
import java.util.LinkedHashSet;
import java.util.Map;
import java.util.Queue;
import java.util.Set;
import java.util.TreeMap;
import java.util.TreeSet;
import java.util.regex.Matcher;
import java.util.regex.Pattern;

/** Those rules of LANGUAGE.md that a machine can look at, by their numbers (1 is FaceCheck's). */
public final class LanguageCheck {
    private static final Class<?> FACE = SwallowCount.class;
    private static String code = "";

    /** Methods of the file by name (two of one name together): their heads, and what they call. */
    private static final Map<String, String> heads = new LinkedHashMap<>();
    private static final Map<String, Set<String>> calls = new TreeMap<>();

    private static void read() throws IOException {
        String source = Files.readString(Path.of("src/main/java/SwallowCount.java"));
        Due.heading("LANGUAGE.md 4");
        Due.must(source.chars().allMatch(c -> c == '\n' || c >= 32 && c < 127), "signs are 32 to 126");
        code = source.replaceAll("(?s)/\\*.*?\\*/", " ").replaceAll("//[^\n]*", " ");
        readMethods();
    }

    private static void readMethods() {
        Map<String, StringBuilder> bodies = new TreeMap<>();
        Matcher head = Pattern.compile("(?m)^( {4}| {8})((?:public|private) [^=;{]*?\\b(\\w+)\\([^)]*\\)) \\{\n").matcher(code);
        while (head.find()) {
            int end = code.indexOf("\n" + head.group(1) + "}\n", head.end() - 1);
            Due.must(end >= 0, "the end of " + head.group(2) + " is seen");
            String body = end < 0 ? "" : code.substring(head.end(), Math.max(end, head.end()));
            heads.merge(head.group(3), head.group(2), (one, other) -> one + "; " + other);
            bodies.computeIfAbsent(head.group(3), name -> new StringBuilder()).append(body);
            Due.heading("LANGUAGE.md 11");
            Due.must(body.split("\n").length <= 60, "short: " + head.group(2));
        }
        for (String name : bodies.keySet()) {
            Set<String> called = new TreeSet<>();
            Matcher call = Pattern.compile("\\b(?:(Math|Arrays|System|Integer)\\.)?(\\w+)\\(").matcher(bodies.get(name));
            while (call.find()) {
                if (call.group(1) != null) {
                    called.add(call.group(1) + "." + call.group(2));
                } else if (bodies.containsKey(call.group(2))) {
                    called.add(call.group(2));
                }
            }
            calls.put(name, called);
        }
    }

    private static void classes() {
        Due.heading("LANGUAGE.md 2, 5, 11");
        Due.must(FACE.getDeclaredClasses().length + 1 <= 12, "twelve classes at most");
        fewFields(FACE);
        for (Class<?> inside : FACE.getDeclaredClasses()) {
            fewFields(inside);
            Due.must(inside.getDeclaredClasses().length == 0, inside + " has no classes inside");
        }
        Due.must(!code.contains("->") && !code.contains("::"), "no lambda, no method reference");
        Due.must(!Pattern.compile("\\bstatic \\{").matcher(code).find(), "no static block");
    }

    private static void fewFields(Class<?> type) {
        int ofObjects = 0;
        for (Field field : type.getDeclaredFields()) {
            boolean isStatic = Modifier.isStatic(field.getModifiers());
            ofObjects += isStatic ? 0 : 1;
            Due.must(!isStatic || Modifier.isFinal(field.getModifiers()), field + " is final");
        }
        Due.must(ofObjects <= 20, type + " has few fields");
        for (Method method : type.getDeclaredMethods()) {
            Due.must(heads.containsKey(method.getName()), method + " was found in the file");
            Due.must(method.getParameterCount() <= 7, method + " takes seven at most");
        }
    }

    private static void words() {
        Due.heading("LANGUAGE.md 3, 4, 6, 13");
        String[] never = {"throw", "throws", "try", "catch", "finally", "synchronized", "assert", "package", "native", "volatile",
            "transient", "Exception", "Error", "Random", "Thread", "Exact", "protected", "yield", "double", "float", "var", "equals",
            "hashCode", "toString", "instanceof", "interface", "enum", "record", "extends", "implements", "String", "null"};
        for (String word : never) {
            Due.must(!Pattern.compile("\\b\\w*" + word + "\\b").matcher(code).find(), "no '" + word + "'");
        }
        Due.must(!Pattern.compile("boolean\\[\\]|\\]\\[").matcher(code).find(), "rows are of numbers, of one dimension");
        Matcher imports = Pattern.compile("(?m)^import (.*);$").matcher(code);
        while (imports.find()) {
            Due.must(imports.group(1).equals("java.util.Arrays"), "import of " + imports.group(1));
        }
        Set<String> library = Set.of("Math.max", "Math.min", "Arrays.fill", "System.arraycopy", "Integer.bitCount");
        Matcher asked = Pattern.compile("\\b(?:Math|Arrays|System|Integer|Long)\\.\\w+").matcher(code);
        while (asked.find()) {
            Due.must(library.contains(asked.group()), asked.group() + " is of the library that the class needs");
        }
    }

    /** A method that calls itself is private and static; no others call one another in a ring. */
    private static void recursion() {
        Due.heading("LANGUAGE.md 8");
        for (String name : calls.keySet()) {
            if (calls.get(name).contains(name)) {
                Due.must(heads.get(name).startsWith("private static "), "what calls itself is private and static: " + heads.get(name));
            }
        }
    }

    private static void depth() {
        Due.heading("LANGUAGE.md 8, 11");
        for (String name : heads.keySet()) {
            if (heads.get(name).startsWith("public ")) {
                goDown(name, new LinkedHashSet<>());
            }
        }
    }

    private static void goDown(String name, Set<String> open) {
        if (!open.add(name)) {
            Due.must(false, "calls in a ring: " + open + " and " + name);
            return;
        }
        Due.must(open.size() <= 8, "eight deep at most: " + open);
        for (String called : calls.getOrDefault(name, Set.of())) {
            if (!called.equals(name)) {
                goDown(called, open);
            }
        }
        open.remove(name);
    }

    /** Room for all calls of a run is small: 'new' stands in fields and constructors only. */
    private static void made() {
        Due.heading("LANGUAGE.md 12");
        int allowed = 0;
        for (String line : code.split("\n")) {
            boolean field = line.matches("\\s*private (final )?\\S+ \\w+ = new .*;");
            boolean constructor = line.matches("\\s*this\\.\\w+ = new int\\[.*\\];");
            allowed += field || constructor ? line.split("\\bnew\\b").length - 1 : 0;
        }
        Due.is("'new' outside of fields and constructors", code.split("\\bnew\\b").length - 1 - allowed, 0);
    }

    /** What a new object takes of the room of 600,000 objects and 7.3 million fields and elements. */
    private static void room() throws ReflectiveOperationException {
        Due.heading("the room of a run");
        Set<Object> found = Collections.newSetFromMap(new IdentityHashMap<>());
        Queue<Object> open = new ArrayDeque<>();
        long cells = 0;
        open.add(new SwallowCount());
        for (int k = 0; k < 100000 && !open.isEmpty(); k++) {
            Object one = open.remove();
            if (found.add(one)) {
                cells += one.getClass().isArray() ? Array.getLength(one) : fieldsOf(one, open);
            }
        }
        Due.must(found.size() <= 60, "60 objects at most, not " + found.size());
        Due.must(cells <= 1500, "1500 fields and elements at most, not " + cells);
    }

    private static int fieldsOf(Object one, Queue<Object> open) throws ReflectiveOperationException {
        int fields = 0;
        for (Field field : one.getClass().getDeclaredFields()) {
            if (!Modifier.isStatic(field.getModifiers())) {
                fields++;
                field.setAccessible(true);
                if (!field.getType().isPrimitive()) {
                    open.add(field.get(one));
                }
            }
        }
        return fields;
    }

    public static void main(String[] args) throws IOException, ReflectiveOperationException {
        read();
        classes();
        words();
        recursion();
        depth();
        made();
        room();
        Due.end();
    }
}
