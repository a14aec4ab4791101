import java.lang.reflect.Constructor;
import java.lang.reflect.Field;
import java.lang.reflect.Method;
import java.lang.reflect.Modifier;
import java.nio.charset.StandardCharsets;
import java.nio.file.Files;
import java.nio.file.Path;
import java.util.Set;
import java.util.TreeSet;

/** "The public face": the class has it, and nothing more that others could see. */
public final class FaceTest {
    private static final Path DOCUMENT = Path.of("../shared/DOC.md");
    private static int wrong = 0;

    private static void bad(String what) {
        wrong++;
        System.out.println("the public face: " + what);
    }

    /** The members that the document tells, each as one line without the names of parameters. */
    private static Set<String> told() throws Exception {
        String text = Files.readString(DOCUMENT, StandardCharsets.UTF_8);
        int first = text.indexOf("```java");
        Set<String> found = new TreeSet<>();
        for (String line : text.substring(first, text.indexOf("```", first + 3)).split("\n")) {
            if (line.trim().endsWith(";")) {
                String member = line.trim().replace(";", "");
                found.add(member.replaceAll("(int|boolean) \\w+([,)])", "$1$2").replaceAll(", ", ","));
            }
        }
        return found;
    }

    private static String types(Class<?>[] parameters) {
        StringBuilder row = new StringBuilder();
        for (Class<?> type : parameters) {
            row.append(row.length() == 0 ? "" : ",").append(type.getName());
        }
        return "(" + row + ")";
    }

    /** Whether a member is public; one that is neither that nor private is wrong by itself. */
    private static boolean isPublic(int modifiers, String member) {
        boolean open = Modifier.isPublic(modifiers);
        if (!open && !Modifier.isPrivate(modifiers)) {
            bad("neither public nor private is " + member);
        }
        return open;
    }

    /** The public members of the class, written as those of the document. */
    private static Set<String> seen() throws Exception {
        Set<String> found = new TreeSet<>();
        for (Constructor<?> made : NineSaints.class.getDeclaredConstructors()) {
            String member = "NineSaints" + types(made.getParameterTypes());
            if (!made.isSynthetic() && isPublic(made.getModifiers(), member)) {
                found.add("public " + member);
            }
        }
        for (Method method : NineSaints.class.getDeclaredMethods()) {
            String member = method.getReturnType().getName() + " " + method.getName() + types(method.getParameterTypes());
            if (!method.isSynthetic() && isPublic(method.getModifiers(), member)) {
                found.add("public " + (Modifier.isStatic(method.getModifiers()) ? "static " : "") + member);
            }
        }
        for (Field field : NineSaints.class.getDeclaredFields()) {
            if (!field.isSynthetic() && isPublic(field.getModifiers(), field.getName())) {
                found.add(Modifier.toString(field.getModifiers()) + " " + field.getType().getName() + " "
                        + field.getName() + " = " + field.get(null));
            }
        }
        return found;
    }

    private static void lookAtClasses() {
        int modifiers = NineSaints.class.getModifiers();
        if (!Modifier.isPublic(modifiers) || !Modifier.isFinal(modifiers)
                || NineSaints.class.getSuperclass() != Object.class || NineSaints.class.getInterfaces().length > 0) {
            bad("public final class NineSaints");
        }
        for (Class<?> inside : NineSaints.class.getDeclaredClasses()) {
            int how = inside.getModifiers();
            if (!Modifier.isStatic(how) || Modifier.isPublic(how) || Modifier.isProtected(how)) {
                bad(inside.getName() + " is not static, or others can see it");
            }
        }
    }

    private static void compare(Set<String> told, Set<String> seen) {
        for (String member : told) {
            if (!seen.contains(member)) {
                bad("the class has no " + member);
            }
        }
        for (String member : seen) {
            if (!told.contains(member)) {
                bad("the document has no " + member);
            }
        }
        System.out.println(told.size() + " members");
    }

    public static void main(String[] args) throws Exception {
        Set<String> seen = seen();
        if (Files.isReadable(DOCUMENT)) {
            compare(told(), seen);
        }
        lookAtClasses();
        System.exit(wrong == 0 ? 0 : 1);
    }
}
