import java.lang.reflect.Constructor;
import java.lang.reflect.Field;
import java.lang.reflect.Method;
import java.lang.reflect.Modifier;
import java.util.Arrays;
import java.util.List;
import java.util.Set;
import java.util.TreeSet;

/** The public face of the class is the document's, and nothing else is to be seen of it. */
public final class FaceTest {
    private static final List<String> FACE = List.of(
        "int across(int,int) IndexOutOfBoundsException",
        "int add(int,int) IllegalArgumentException,IllegalStateException",
        "int circle(int,int,int,int) IllegalArgumentException",
        "int clear()",
        "int corner(int,int) IndexOutOfBoundsException",
        "int count(int)",
        "int edge(int,int) IllegalArgumentException",
        "boolean link(int,int) IllegalArgumentException",
        "int locate(int,int) IllegalArgumentException",
        "int side(int,int,int) IllegalArgumentException",
        "int sleeve(int)",
        "int turn(int)",
        "boolean unlink(int,int) IllegalArgumentException",
        "int way(int,int,int,int) IllegalArgumentException");

    public static void main(String[] args) {
        Expect expect = new Expect();
        expect.due("modifiers", Modifier.toString(MeshWalk.class.getModifiers()), "public final");
        Set<String> methods = new TreeSet<>();
        Set<String> publicNames = new TreeSet<>();
        for (Method m : MeshWalk.class.getDeclaredMethods()) {
            if (Modifier.isPublic(m.getModifiers())) {
                methods.add(tell(m));
                publicNames.add(m.getName());
            }
        }
        expect.due("methods", methods, new TreeSet<>(FACE));
        checkHidden(expect, MeshWalk.class.getDeclaredMethods(), publicNames);
        for (Class<?> inside : MeshWalk.class.getDeclaredClasses()) {
            expect.due(inside.getName() + " is static", Modifier.isStatic(inside.getModifiers()), true);
            checkHidden(expect, inside.getDeclaredMethods(), publicNames);
            checkStatics(expect, inside);
        }
        for (Constructor<?> c : MeshWalk.class.getDeclaredConstructors()) {
            expect.due("constructor", c.toString(), "public MeshWalk()");
        }
        for (Field f : MeshWalk.class.getDeclaredFields()) {
            boolean none = f.getName().equals("NONE");
            expect.due(f.getName(), Modifier.toString(f.getModifiers()).startsWith(none ? "public static final" : "private"), true);
        }
        checkStatics(expect, MeshWalk.class);
        expect.finish();
    }

    private static String tell(Method m) {
        StringBuilder text = new StringBuilder(m.getReturnType() + " " + m.getName() + "(");
        text.append(String.join(",", Arrays.stream(m.getParameterTypes()).map(Class::getSimpleName).toList()));
        text.append(")");
        String thrown = String.join(",", Arrays.stream(m.getExceptionTypes()).map(Class::getSimpleName).toList());
        return (text + " " + thrown).trim();
    }

    private static void checkHidden(Expect expect, Method[] methods, Set<String> publicNames) {
        for (Method m : methods) {
            if (!Modifier.isPublic(m.getModifiers())) {
                expect.due(m + " bears a public name", publicNames.contains(m.getName()), false);
                expect.due(m + " has too many parameters", m.getParameterCount() > 7, false);
            }
        }
    }

    private static void checkStatics(Expect expect, Class<?> of) {
        for (Field f : of.getDeclaredFields()) {
            if (Modifier.isStatic(f.getModifiers())) {
                expect.due(f + " is final", Modifier.isFinal(f.getModifiers()), true);
                expect.due(f + " is a number", f.getType() == int.class || f.getType() == long.class, true);
            }
        }
    }
}
