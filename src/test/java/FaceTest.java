import java.lang.reflect.Constructor;
import java.lang.reflect.Field;
import java.lang.reflect.Method;
import java.lang.reflect.Modifier;
import java.util.Set;
import java.util.TreeSet;

// The public face is the document's, with nothing missing and nothing more that others can see.
public final class FaceTest {
    private static final Set<String> DUE = new TreeSet<>(Set.of(
        "public final class MeanPayoffGame",
        "public static final int BAD_ARG = -100",
        "public static final int MAX = 1",
        "public static final int MIN = 0",
        "public MeanPayoffGame(int)",
        "public int places()",
        "public int owner(int,int)",
        "public int move(int,int,int,int)",
        "public int target(int,int)",
        "public int weight(int,int)",
        "public int numerator(int)",
        "public int denominator(int)",
        "public boolean atLeast(int,int,int)",
        "public int sixtieths(int)",
        "public boolean keeps(int,int)",
        "public int winning(int,int)",
        "public int gifts(int)",
        "public int shift(int)",
        "public void mirror()"));

    public static void main(String[] args) throws IllegalAccessException {
        Class<?> c = MeanPayoffGame.class;
        Set<String> seen = new TreeSet<>();
        seen.add(Modifier.toString(c.getModifiers()) + " class " + c.getName());
        for (Field f : c.getDeclaredFields()) {
            if (!Modifier.isPrivate(f.getModifiers())) {
                seen.add(Modifier.toString(f.getModifiers()) + " " + f.getType() + " " + f.getName() + " = " + f.get(null));
            }
        }
        for (Constructor<?> k : c.getDeclaredConstructors()) {
            seen.add(k.toString());
        }
        for (Method m : c.getDeclaredMethods()) {
            if (!Modifier.isPrivate(m.getModifiers())) {
                seen.add(m.toString().replace("MeanPayoffGame.", ""));
            }
        }
        Set<String> missing = new TreeSet<>(DUE);
        missing.removeAll(seen);
        Set<String> more = new TreeSet<>(seen);
        more.removeAll(DUE);
        missing.forEach(m -> System.out.println("missing: " + m));
        more.forEach(m -> System.out.println("not in the document: " + m));
        if (!missing.isEmpty() || !more.isEmpty()) System.exit(1);
        System.out.println("the public face is as due");
    }
}
