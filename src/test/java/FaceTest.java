import java.lang.reflect.Constructor;
import java.lang.reflect.Executable;
import java.lang.reflect.Field;
import java.lang.reflect.Method;
import java.lang.reflect.Modifier;
import java.util.TreeSet;

/** The public face: these members, and nothing else that another class can see. */
public final class FaceTest {
    private static final String[] FACE = {
        "public PrimitiveBits()",
        "public long PrimitiveBits.binary(int,long,long,int) throws java.lang.IllegalArgumentException,java.lang.ArithmeticException",
        "public long PrimitiveBits.minus(long,int) throws java.lang.IllegalArgumentException",
        "public long PrimitiveBits.cast(long,int,int) throws java.lang.IllegalArgumentException",
        "public int PrimitiveBits.compare(long,long,int) throws java.lang.IllegalArgumentException",
        "public int PrimitiveBits.text(long,int) throws java.lang.IllegalArgumentException",
        "public long PrimitiveBits.take()",
    };

    public static void main(String[] args) {
        Due due = new Due();
        TreeSet<String> seen = new TreeSet<>();
        for (Constructor<?> made : PrimitiveBits.class.getDeclaredConstructors()) {
            note(seen, made);
        }
        for (Method method : PrimitiveBits.class.getDeclaredMethods()) {
            note(seen, method);
        }
        due.same("the face", String.join("\n", seen), String.join("\n", new TreeSet<>(java.util.List.of(FACE))));
        for (Field field : PrimitiveBits.class.getDeclaredFields()) {
            due.same("private " + field, Modifier.isPrivate(field.getModifiers()) ? 1 : 0, 1);
        }
        due.same("modifiers", Modifier.toString(PrimitiveBits.class.getModifiers()), "public final");
        due.end();
    }

    private static void note(TreeSet<String> seen, Executable member) {
        if (!Modifier.isPrivate(member.getModifiers())) {
            seen.add(member.toString());
        }
    }
}
