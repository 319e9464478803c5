import java.lang.reflect.Constructor;
import java.lang.reflect.Field;
import java.lang.reflect.Method;
import java.lang.reflect.Modifier;
import java.util.Arrays;
import java.util.Set;
import java.util.TreeSet;
import java.util.regex.Matcher;
import java.util.regex.Pattern;
import java.util.stream.Collectors;
import java.util.stream.Stream;

/** The document's public face: the class has what it lists and nothing more that can be seen from outside. */
public final class FaceTest {
    private static final int SEEN = Modifier.PUBLIC | Modifier.PROTECTED;

    public static void main(String[] args) {
        Set<String> listed = listed();
        Check.due("members that the face lists", listed.size(), 30);
        Check.due("the members", String.join("\n", seen()), String.join("\n", listed));
        Check.due("the class", Modifier.toString(WinterRoad.class.getModifiers()), "public final");
        Check.due("NONE", WinterRoad.NONE, -9);
        Check.due("what it extends", WinterRoad.class.getSuperclass().getName(), "java.lang.Object");
        Check.due("what it implements", WinterRoad.class.getInterfaces().length, 0);
        hidden(WinterRoad.class);
        for (Class<?> inside : WinterRoad.class.getDeclaredClasses()) {
            boolean fine = Modifier.isStatic(inside.getModifiers()) && (inside.getModifiers() & SEEN) == 0;
            Check.due(inside + " is static and cannot be seen", fine ? 1 : 0, 1);
            namesOfTheirOwn(inside);
        }
        Check.end();
    }

    /** The members as the document writes them, without the names of the arguments. */
    private static Set<String> listed() {
        Set<String> members = new TreeSet<>();
        String face = Check.document().section("The public face").replaceAll(".*class WinterRoad \\{|\\} ```.*", "");
        Matcher m = Pattern.compile("public [^;]*;").matcher(face);
        while (m.find()) {
            members.add(m.group().replaceAll(" = -9|;", "").replaceAll("(int|long) \\w+([,)])", "$1$2"));
        }
        return members;
    }

    private static Set<String> seen() {
        Set<String> members = new TreeSet<>();
        for (Field f : WinterRoad.class.getFields()) {
            members.add(Modifier.toString(f.getModifiers()) + " " + f.getType() + " " + f.getName());
        }
        for (Constructor<?> c : WinterRoad.class.getConstructors()) {
            members.add("public WinterRoad(" + names(c.getParameterTypes()) + ")" + thrown(c.getExceptionTypes()));
        }
        for (Method m : WinterRoad.class.getDeclaredMethods()) {
            if (Modifier.isPublic(m.getModifiers())) {
                members.add("public " + m.getReturnType() + " " + m.getName() + "(" + names(m.getParameterTypes())
                        + ")" + thrown(m.getExceptionTypes()));
            }
        }
        return members;
    }

    private static String thrown(Class<?>[] kinds) {
        return kinds.length == 0 ? "" : " throws " + names(kinds);
    }

    private static String names(Class<?>[] kinds) {
        return Arrays.stream(kinds).map(Class::getSimpleName).collect(Collectors.joining(", "));
    }

    /** What is not public in the class is private. */
    private static void hidden(Class<?> kind) {
        Stream.of(kind.getDeclaredFields(), kind.getDeclaredMethods(), kind.getDeclaredConstructors())
                .flatMap(Arrays::stream)
                .filter(m -> (m.getModifiers() & (Modifier.PUBLIC | Modifier.PRIVATE)) == 0)
                .forEach(m -> Check.due("members neither public nor private", m.toString(), ""));
    }

    /** No method inside bears the name of a public one. */
    private static void namesOfTheirOwn(Class<?> inside) {
        for (Method m : inside.getDeclaredMethods()) {
            boolean same = Arrays.stream(WinterRoad.class.getMethods()).anyMatch(p -> p.getName().equals(m.getName()));
            Check.due(m + " bears the name of a public one", same ? 1 : 0, 0);
        }
    }
}
