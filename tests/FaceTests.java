import java.lang.reflect.Constructor;
import java.lang.reflect.Executable;
import java.lang.reflect.Method;
import java.lang.reflect.Modifier;
import java.util.ArrayList;
import java.util.Arrays;
import java.util.List;
import java.util.TreeSet;
import java.util.regex.Matcher;
import java.util.regex.Pattern;
import java.util.stream.Collectors;

/** Rule 1 of LANGUAGE.md: the class's members are those that "The public face" prints, throws clauses too. */
final class FaceTests {
    private static final Pattern FACE = Pattern.compile("## The public face\\s+```java\\n(.*?)```", Pattern.DOTALL);
    private static final Pattern PARTS = Pattern.compile("(public [^(]*)\\(([^)]*)\\)(?: throws (.*))?");

    static void run() {
        Kit.test(0, "each method declares the exceptions that the public face prints", () -> {
            List<String> printed = printedMembers();
            for (Method method : NoodleCanal.class.getMethods()) {
                if (method.getDeclaringClass() == NoodleCanal.class) {
                    String head = head(method, method.getName());
                    Kit.same("throws of " + head, throwsOf(method), printedThrows(printed, head));
                }
            }
        });
        Kit.test(0, "the class is public and final and has the members of the public face alone", () -> {
            Kit.same("the class's modifiers", Modifier.toString(NoodleCanal.class.getModifiers()), "public final");
            TreeSet<String> printed = new TreeSet<>(printedMembers());
            TreeSet<String> found = visibleMembers();
            Kit.same("members beside the face", without(found, printed), new TreeSet<String>());
            Kit.same("members wanting", without(printed, found), new TreeSet<String>());
        });
    }

    private static String printedThrows(List<String> printed, String head) {
        for (String member : printed) {
            if (member.equals(head)) return "";
            if (member.startsWith(head + " throws ")) return member.substring(head.length());
        }
        return "no such method in the face";
    }

    /** The members as the document prints them, without the parameters' names. */
    private static List<String> printedMembers() {
        Matcher face = FACE.matcher(Document.text());
        if (!face.find()) throw new AssertionError("no public face in " + Document.FILE);
        List<String> members = new ArrayList<>();
        for (String line : face.group(1).split("\n")) {
            if (line.endsWith(";")) members.add(withoutParameterNames(line.strip().substring(0, line.strip().length() - 1)));
        }
        return members;
    }

    private static String withoutParameterNames(String member) {
        Matcher parts = PARTS.matcher(member);
        if (!parts.matches()) throw new AssertionError("neither a constructor nor a method: " + member);
        String types = parts.group(2).replaceAll(" \\w+(?=,|$)", "");
        return parts.group(1) + "(" + types + ")" + (parts.group(3) == null ? "" : " throws " + parts.group(3));
    }

    private static TreeSet<String> visibleMembers() {
        TreeSet<String> members = new TreeSet<>();
        for (Constructor<?> made : NoodleCanal.class.getDeclaredConstructors()) addVisible(members, made, "NoodleCanal");
        for (Method method : NoodleCanal.class.getDeclaredMethods()) addVisible(members, method, method.getName());
        Arrays.stream(NoodleCanal.class.getDeclaredFields())
                .filter(field -> !field.isSynthetic() && !Modifier.isPrivate(field.getModifiers()))
                .forEach(field -> members.add(field.toString()));
        return members;
    }

    private static void addVisible(TreeSet<String> members, Executable member, String name) {
        if (!member.isSynthetic() && !Modifier.isPrivate(member.getModifiers())) members.add(head(member, name) + throwsOf(member));
    }

    private static String head(Executable member, String name) {
        String modifiers = Modifier.toString(member.getModifiers());
        String result = member instanceof Method ? ((Method) member).getReturnType().getSimpleName() + " " : "";
        return modifiers + " " + result + name + "(" + names(member.getParameterTypes()) + ")";
    }

    private static String throwsOf(Executable member) {
        return member.getExceptionTypes().length == 0 ? "" : " throws " + names(member.getExceptionTypes());
    }

    private static String names(Class<?>[] types) {
        return Arrays.stream(types).map(Class::getSimpleName).collect(Collectors.joining(", "));
    }

    private static TreeSet<String> without(TreeSet<String> all, TreeSet<String> some) {
        TreeSet<String> rest = new TreeSet<>(all);
        rest.removeAll(some);
        return rest;
    }
}
