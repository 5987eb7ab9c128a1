import java.io.IOException;
import java.lang.reflect.Constructor;
import java.lang.reflect.Executable;
import java.lang.reflect.Field;
import java.lang.reflect.Method;
import java.lang.reflect.Modifier;
import java.nio.file.Files;
import java.nio.file.Path;
import java.util.Arrays;
import java.util.Set;
import java.util.TreeSet;

/** What the class shows, as javac made it, against the document's public face: each line of it, and nothing more. */
public final class FaceTest {
    private static int wrong;

    public static void main(String[] args) throws Exception {
        Path document = Path.of("../shared/DOC.md");
        Set<String> shown = shown();
        if (Files.exists(document)) compare(asked(document), shown);
        if (!Modifier.isFinal(RiskDesk.class.getModifiers()) || !Modifier.isPublic(RiskDesk.class.getModifiers())) complain("the class");
        if (RiskDesk.class.getSuperclass() != Object.class || RiskDesk.class.getInterfaces().length > 0) complain("what it extends");
        if (RiskDesk.class.getPackage() != null && !RiskDesk.class.getPackage().getName().isEmpty()) complain("a package");
        for (Class<?> inside : RiskDesk.class.getDeclaredClasses()) {
            if (Modifier.isPublic(inside.getModifiers()) || Modifier.isProtected(inside.getModifiers())) complain("" + inside);
        }
        if (shown.size() != Calls.NAMES.length + 2) complain("the tests call " + Calls.NAMES.length + " of " + shown);
        System.out.println(shown.size() + " lines of the face, " + wrong + " not as due");
        if (wrong != 0) System.exit(1);
    }

    private static void complain(String what) {
        wrong++;
        System.out.println("not as the face says: " + what);
    }

    private static void compare(Set<String> asked, Set<String> shown) {
        for (String line : asked) if (!shown.contains(line)) complain("lacks " + line);
        for (String line : shown) if (!asked.contains(line)) complain("has " + line);
    }

    /** The document's lines, without the names of what calls are given: "public TYPE name(TYPE, TYPE) throws A, B". */
    private static Set<String> asked(Path document) throws IOException {
        String face = Files.readString(document).split("## The public face")[1].split("```java")[1].split("```")[0];
        Set<String> lines = new TreeSet<>();
        for (String line : face.split("\n")) {
            String member = line.trim().replace(";", "");
            if (!member.startsWith("public ") || member.contains(" class ")) continue;
            lines.add(member.replaceAll("(\\(|, )(int|long) \\w+", "$1$2"));
        }
        return lines;
    }

    /** Whatever can be seen from without: what is not private, but for what javac itself adds. */
    private static Set<String> shown() throws IllegalAccessException {
        Set<String> lines = new TreeSet<>();
        for (Field field : RiskDesk.class.getDeclaredFields()) {
            if (Modifier.isPrivate(field.getModifiers()) || field.isSynthetic()) continue;
            lines.add(head(field.getModifiers()) + field.getType().getSimpleName() + " " + field.getName() + " = " + field.get(null));
        }
        for (Constructor<?> made : RiskDesk.class.getDeclaredConstructors()) {
            if (!Modifier.isPrivate(made.getModifiers()) && !made.isSynthetic()) lines.add(head(made.getModifiers()) + "RiskDesk" + rest(made));
        }
        for (Method method : RiskDesk.class.getDeclaredMethods()) {
            if (Modifier.isPrivate(method.getModifiers()) || method.isSynthetic()) continue;
            lines.add(head(method.getModifiers()) + method.getReturnType().getSimpleName() + " " + method.getName() + rest(method));
        }
        return lines;
    }

    private static String head(int modifiers) {
        return modifiers == 0 ? "" : Modifier.toString(modifiers) + " ";
    }

    private static String rest(Executable call) {
        return "(" + names(call.getParameterTypes()) + ")" + (call.getExceptionTypes().length > 0 ? " throws " : "")
                + names(call.getExceptionTypes());
    }

    private static String names(Class<?>[] types) {
        return String.join(", ", Arrays.stream(types).map(Class::getSimpleName).toArray(String[]::new));
    }
}
