import java.lang.reflect.Constructor;
import java.lang.reflect.Field;
import java.lang.reflect.Method;
import java.lang.reflect.Modifier;
import java.util.ArrayList;
import java.util.List;

/** The public face: what stands there, and nothing beside it. */
public final class FaceTest {
    public static void main(String[] args) {
        Edges.run(FaceTest.class);
    }

    @Says(at = "The public face", value = {
        "public int world(int q, int m);", "public int work(int how, int a, int b);", "public int poly(int how, int a, int b);",
        "public int module(int g0, int g1, int g2, int g3);", "public int map(int c0, int c1, int c2);",
        "public int feed(int a, int b, int c, int d, int e);", "public int end(int n);", "public int text();",
        "public int fault(int what);", "public int told(int text);", "public int of(boolean map, int which, int what);",
        "public int act(int module, int poly, int rest);", "public int acts(int module, int poly, int i);",
        "public int send(int map, int rest);", "public int noughts(int module, int poly, int i);",
        "public int about(int module, int what);", "public int parts(int module, int i);", "public int great(int module, int what);",
        "public int leads(int map, int module, int i);", "public int dual(int map, int module, int i);",
        "public int made(int module, int rest);", "public int ends(int module, int e);", "public int alike(int one, int other);",
        "public int classes(int g0, int rank);", "public int greatest(int g0);", "public int sums(int k, int d);",
        "public int symbol(int a, int b);", "public int factors(int a, int i);", "public int undo();", "public int redo();",
        "public int image();", "public int back();", "public int count(int what);"})
    static void faceMethods() throws NoSuchMethodException {
        Says says = FaceTest.class.getDeclaredMethod("faceMethods").getAnnotation(Says.class);
        List<String> want = new ArrayList<>();
        for (String line : says.value()) {
            want.add(line.replaceAll("(int|boolean) [a-z0-9]+([,)])", "$1$2"));
        }
        List<String> got = new ArrayList<>();
        for (Method m : PowersForTimes.class.getDeclaredMethods()) {
            if (Modifier.isPrivate(m.getModifiers()) || m.isSynthetic()) {
                continue;
            }
            List<String> types = new ArrayList<>();
            for (Class<?> type : m.getParameterTypes()) {
                types.add(type.getName());
            }
            got.add(Modifier.toString(m.getModifiers()) + " " + m.getReturnType() + " " + m.getName() + "(" + String.join(", ", types) + ");");
        }
        for (String line : want) {
            Due.holds(line + " stands", got.contains(line));
        }
        for (String line : got) {
            Due.holds(line + " is the document's", want.contains(line));
        }
        Due.due("methods", got.size(), 33);
    }

    @Says(at = "The public face", value = {"public final class PowersForTimes", "public PowersForTimes();"})
    static void faceClass() {
        Class<?> face = PowersForTimes.class;
        Due.holds("public and final", Modifier.isPublic(face.getModifiers()) && Modifier.isFinal(face.getModifiers()));
        Due.holds("no package", face.getPackageName().isEmpty());
        Due.holds("no other class above it", face.getSuperclass() == Object.class && face.getInterfaces().length == 0);
        int open = 0;
        for (Constructor<?> c : face.getDeclaredConstructors()) {
            if (!Modifier.isPrivate(c.getModifiers()) && !c.isSynthetic()) {
                open++;
                Due.holds("public", Modifier.isPublic(c.getModifiers()));
                Due.due("parameters", c.getParameterCount(), 0);
            }
        }
        Due.due("constructors", open, 1);
        for (Class<?> inside : face.getDeclaredClasses()) {
            int flags = inside.getModifiers();
            Due.holds(inside + " is not open to all", !Modifier.isPublic(flags) && !Modifier.isProtected(flags));
        }
    }

    @Says(at = "The public face", value = "public static final int NONE = -1;")
    static void faceConstants() throws IllegalAccessException {
        int open = 0;
        for (Field f : PowersForTimes.class.getDeclaredFields()) {
            if (!Modifier.isPrivate(f.getModifiers()) && !f.isSynthetic()) {
                open++;
                Due.holds(f + " is NONE", f.toString().equals("public static final int PowersForTimes.NONE"));
                Due.due("NONE", f.getInt(null), -1);
            }
        }
        Due.due("constants", open, 1);
    }

    @Says(at = "IV", value = "The constants: `NONE = -1`: None.")
    static void faceNone() {
        Due.due("NONE", PowersForTimes.NONE, -1);
        PowersForTimes x = new PowersForTimes();
        Due.due("it is what a call answers that has nothing to answer", x.undo(), PowersForTimes.NONE);
        x.module(1, 1, 0, 0);
        Due.due("and what asks for a degree", x.of(false, 0, PowersForTimes.NONE), 1);
        Due.due("and for how many", x.factors(6, PowersForTimes.NONE), 2);
    }
}
