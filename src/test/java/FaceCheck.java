import java.io.IOException;
import java.lang.reflect.Field;
import java.lang.reflect.Member;
import java.lang.reflect.Method;
import java.lang.reflect.Modifier;
import java.nio.file.Files;
import java.nio.file.Path;
import java.util.ArrayList;
import java.util.Arrays;
import java.util.List;
import java.util.Map;
import java.util.Set;
import java.util.TreeMap;
import java.util.TreeSet;
import java.util.regex.Matcher;
import java.util.regex.Pattern;

/** 'The public face' as DOC.md tells it, and that there is no other (LANGUAGE.md 1). */
public final class FaceCheck {
    private static final Class<?> FACE = SwallowCount.class;

    /** What stands between these words of the document. */
    private static String between(String first, String last) {
        String document = Due.document();
        int from = document.indexOf(first);
        int to = from < 0 ? -1 : document.indexOf(last, from + first.length());
        Due.must(to >= 0, "the document has '" + first + "' and then '" + last + "'");
        return to < 0 ? "" : document.substring(from + first.length(), to);
    }

    private static String signature(Method method) {
        List<String> types = new ArrayList<>();
        for (Class<?> type : method.getParameterTypes()) {
            types.add(type.getSimpleName());
        }
        String returned = method.getReturnType().getSimpleName();
        return returned + " " + method.getName() + "(" + String.join(", ", types) + ")";
    }

    private static Set<String> methodsOfTheDocument(String told) {
        Set<String> methods = new TreeSet<>();
        Matcher row = Pattern.compile("public (int \\w+)\\(([^)]*)\\);").matcher(told);
        while (row.find()) {
            methods.add(row.group(1) + "(" + row.group(2).replaceAll("(int|boolean) \\w+", "$1") + ")");
        }
        return methods;
    }

    private static Set<String> publicMethods() {
        Set<String> methods = new TreeSet<>();
        for (Method method : FACE.getDeclaredMethods()) {
            if (Modifier.isPublic(method.getModifiers())) {
                Due.must(!Modifier.isStatic(method.getModifiers()), method + " is asked of an object");
                methods.add(signature(method));
            }
        }
        return methods;
    }

    private static void face() throws ReflectiveOperationException {
        Due.sentence("public final class SwallowCount {");
        String told = between("public final class SwallowCount {", "}");
        Due.must(Modifier.isFinal(FACE.getModifiers()) && Modifier.isPublic(FACE.getModifiers()), "the class is public and final");
        Due.must(FACE.getPackageName().isEmpty(), "the class has no package");
        Due.sentence("public SwallowCount();");
        Due.must(FACE.getDeclaredConstructors().length == 1 && FACE.getConstructors().length == 1, "one constructor, public");
        Due.must(FACE.getConstructor() != null, "it takes nothing");
        Due.heading("The public face");
        Set<String> due = methodsOfTheDocument(told);
        Due.is("how many methods the document tells", due.size(), 31);
        Due.must(publicMethods().equals(due), "the methods are those of the document, not " + publicMethods());
        constants(told);
    }

    private static void constants(String told) throws ReflectiveOperationException {
        Map<String, Integer> due = new TreeMap<>();
        Matcher constant = Pattern.compile("([A-Z]+) = (-?\\d+)").matcher(told);
        while (constant.find()) {
            due.put(constant.group(1), Integer.parseInt(constant.group(2)));
        }
        Due.is("how many constants the document tells", due.size(), 5);
        for (Map.Entry<String, Integer> entry : due.entrySet()) {
            Field field = FACE.getField(entry.getKey());
            Due.must(Modifier.isStatic(field.getModifiers()) && Modifier.isFinal(field.getModifiers()), field + " is a constant");
            Due.must(field.getType() == int.class, field + " is an int");
            Due.is(entry.getKey(), field.getInt(null), entry.getValue());
        }
        Due.is("public fields", FACE.getFields().length, due.size());
    }

    /** The parts of the interface, in the document's order, each with its calls, in the document's order. */
    private static void parts() throws IOException {
        String source = Files.readString(Path.of("src/main/java/SwallowCount.java"));
        Matcher part = Pattern.compile("Ahead of the calls ([^:]*) the interface says: (---- [^.]*)\\.").matcher(Due.document());
        int found = 0;
        while (part.find()) {
            Due.sentence(part.group());
            found++;
            int from = source.indexOf("    // " + part.group(2) + "\n");
            int to = source.indexOf("    // ----", from + 1);
            Due.must(from >= 0 && to >= 0, "the class says " + part.group(2));
            List<String> names = new ArrayList<>();
            Matcher head = Pattern.compile("(?m)^    public int (\\w+)\\(").matcher(from < 0 || to < 0 ? "" : source.substring(from, to));
            while (head.find()) {
                names.add("`" + head.group(1) + "`");
            }
            Due.must(String.join(", ", names).equals(part.group(1)), "those calls come there, not " + names);
        }
        Due.is("parts of the interface", found, 5);
    }

    private static void noOther() {
        Due.heading("LANGUAGE.md 1");
        Set<String> names = new TreeSet<>();
        for (Method method : FACE.getDeclaredMethods()) {
            if (Modifier.isPublic(method.getModifiers())) {
                names.add(method.getName());
            }
        }
        hidden(FACE, names);
        for (Class<?> inside : FACE.getDeclaredClasses()) {
            int modifiers = inside.getModifiers();
            Due.must(Modifier.isStatic(modifiers) && !Modifier.isPublic(modifiers), inside + " is static, not public");
            hidden(inside, names);
        }
    }

    private static void hidden(Class<?> type, Set<String> publicNames) {
        List<Member> members = new ArrayList<>(Arrays.asList(type.getDeclaredMethods()));
        members.addAll(Arrays.asList(type.getDeclaredFields()));
        members.addAll(Arrays.asList(type.getDeclaredConstructors()));
        for (Member member : members) {
            boolean ofFace = type == FACE && Modifier.isPublic(member.getModifiers());
            Due.must(ofFace || Modifier.isPrivate(member.getModifiers()), member + " is private");
            if (member instanceof Method && !ofFace) {
                Due.must(!publicNames.contains(member.getName()), member + " has a name of its own");
            }
        }
    }

    public static void main(String[] args) throws IOException, ReflectiveOperationException {
        face();
        parts();
        noOther();
        Due.end();
    }
}
