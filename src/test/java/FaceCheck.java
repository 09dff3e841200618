import java.io.IOException;
import java.lang.reflect.Field;
import java.lang.reflect.Member;
import java.lang.reflect.Method;
import java.lang.reflect.Modifier;
import java.nio.file.Files;
import java.nio.file.Path;
import java.util.ArrayList;
import java.util.Arrays;
import java.util.List;
import java.util.Set;
import java.util.TreeSet;
import java.util.regex.Matcher;
import java.util.regex.Pattern;

/** The public face of the document, and those rules of LANGUAGE.md that a machine can look at. */
public final class FaceCheck {
    private static int wrong = 0;

    private static void must(boolean holds, String what) {
        if (!holds) {
            wrong++;
            System.out.println("not so: " + what);
        }
    }

    private static final String[] METHODS = {"feed(int)", "land()", "fault()", "told(int)", "barn(int,int)", "year(int)",
        "open(int,boolean)", "move(int,int,int)", "mud(int,int)", "ring(int,int)", "drift(int)", "undo()", "count(int,int,int)",
        "leave(int,int,int)", "counters(int)", "game(int,int,int)", "leastMud(int,int)", "votes(int)", "elected()",
        "spring(int,int)", "see(int,int)", "moved(int)", "rough(int,int)", "span(int,int)", "uncounted()", "write(int,int)",
        "tear()", "judge()", "seed(int)", "keep(int)", "goBack(int)"};

    private static void face() throws ReflectiveOperationException {
        Class<?> face = SwallowCount.class;
        must(Modifier.isFinal(face.getModifiers()) && Modifier.isPublic(face.getModifiers()), "the class is public and final");
        must(face.getPackageName().isEmpty(), "the class has no package");
        must(face.getDeclaredConstructors().length == 1 && face.getConstructors().length == 1, "one constructor, public");
        Set<String> found = new TreeSet<>();
        Set<String> names = new TreeSet<>();
        for (Method method : face.getDeclaredMethods()) {
            if (Modifier.isPublic(method.getModifiers())) {
                must(method.getReturnType() == int.class && !Modifier.isStatic(method.getModifiers()), method + " answers an int");
                found.add(signature(method));
                names.add(method.getName());
            }
        }
        must(found.equals(new TreeSet<>(Arrays.asList(METHODS))), "the methods are those of the document, not " + found);
        constants(face);
        members(face, names);
        for (Class<?> inside : face.getDeclaredClasses()) {
            must(Modifier.isStatic(inside.getModifiers()) && !Modifier.isPublic(inside.getModifiers()), inside + " is static, not public");
            members(inside, names);
            must(inside.getDeclaredFields().length <= 24, inside + " has few fields");
        }
        must(face.getDeclaredClasses().length <= 12, "twelve classes at most");
    }

    private static String signature(Method method) {
        List<String> types = new ArrayList<>();
        for (Class<?> type : method.getParameterTypes()) {
            types.add(type.getSimpleName());
        }
        return method.getName() + "(" + String.join(",", types) + ")";
    }

    private static void constants(Class<?> face) throws ReflectiveOperationException {
        String[] constants = {"NONE", "UNKNOWN", "OUTSIDE", "NOT", "FULL"};
        int[] values = {-1, -1000000001, -1000000002, -1000000003, -1000000004};
        for (int i = 0; i < constants.length; i++) {
            Field field = face.getField(constants[i]);
            must(Modifier.isStatic(field.getModifiers()) && Modifier.isFinal(field.getModifiers()), constants[i] + " is a constant");
            must(field.getInt(null) == values[i], constants[i] + " is " + values[i]);
        }
        must(face.getFields().length == constants.length, "no other public field");
    }

    private static void members(Class<?> type, Set<String> publicNames) {
        List<Member> members = new ArrayList<>(Arrays.asList(type.getDeclaredMethods()));
        members.addAll(Arrays.asList(type.getDeclaredFields()));
        for (Member member : members) {
            int modifiers = member.getModifiers();
            boolean ofFace = type == SwallowCount.class && Modifier.isPublic(modifiers);
            must(ofFace || Modifier.isPrivate(modifiers), member + " is private");
            if (member instanceof Method && !ofFace) {
                must(!publicNames.contains(member.getName()), member + " has a name of its own");
                must(((Method) member).getParameterCount() <= 7, member + " takes seven at most");
            }
            if (member instanceof Field && Modifier.isStatic(modifiers)) {
                must(Modifier.isFinal(modifiers), member + " is final");
            }
        }
    }

    private static void language() throws IOException {
        String source = Files.readString(Path.of("src/main/java/SwallowCount.java"));
        must(source.chars().allMatch(c -> c == '\n' || c >= 32 && c < 127), "signs are 32 to 126");
        String code = source.replaceAll("(?s)/\\*.*?\\*/", " ").replaceAll("//[^\n]*", " ");
        String[] never = {"throw", "throws", "try", "catch", "finally", "synchronized", "assert", "package", "native", "volatile",
            "Exception", "Error", "Random", "Thread", "System\\.(?!arraycopy)", "Arrays\\.(?!copyOf|copyOfRange|fill)", "Exact",
            "protected", "yield", "double", "float", "Integer\\.(?!bitCount)", "Math\\.(?!min|max)", "boolean\\[\\]", "var"};
        for (String word : never) {
            must(!Pattern.compile("\\b" + word + (word.endsWith(")") || word.endsWith("]") ? "" : "\\b")).matcher(code).find(), "no '" + word + "'");
        }
        must(!code.contains("->") && !code.contains("::"), "no lambda, no method reference");
        Matcher imports = Pattern.compile("(?m)^import (.*);$").matcher(code);
        while (imports.find()) {
            must(imports.group(1).equals("java.util.Arrays"), "import of " + imports.group(1));
        }
        must(code.split("\\bnew\\b").length - 1 == countOfNewInFieldsAndConstructors(code), "nothing is made by a call");
        shortMethods(source);
    }

    /** Room for all calls of a run is small: 'new' stands in fields and constructors only. */
    private static int countOfNewInFieldsAndConstructors(String code) {
        int count = 0;
        for (String line : code.split("\n")) {
            boolean field = line.matches("\\s*private (final )?\\S+ \\w+ = new .*;");
            boolean constructor = line.matches("\\s*this\\.\\w+ = new int\\[.*\\];");
            count += field || constructor ? line.split("\\bnew\\b").length - 1 : 0;
        }
        return count;
    }

    private static void shortMethods(String source) {
        String[] lines = source.split("\n");
        int start = -1;
        String indent = "";
        for (int i = 0; i < lines.length; i++) {
            Matcher head = Pattern.compile("( {4}| {8})(public|private) [^=;]*\\) \\{").matcher(lines[i]);
            if (head.matches()) {
                start = i;
                indent = head.group(1);
            } else if (start >= 0 && lines[i].equals(indent + "}")) {
                must(i - start + 1 <= 60, "short: " + lines[start].trim());
                start = -1;
            }
            must(lines[i].length() <= 130, "line " + (i + 1) + " is short");
        }
    }

    public static void main(String[] args) throws Exception {
        face();
        language();
        System.out.println(wrong == 0 ? "the face and the language are as due" : wrong + " are not as due");
        if (wrong != 0) {
            System.exit(1);
        }
    }
}
