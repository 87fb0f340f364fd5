import java.lang.reflect.Field;
import java.lang.reflect.Member;
import java.lang.reflect.Method;
import java.lang.reflect.Modifier;
import java.util.Arrays;
import java.util.TreeSet;

/** The public face: just the members of the document, and nothing else that others can see. */
public final class FaceTest {

    private static final String[] FACE = {
        "public static final int PrintHouse.NONE",
        "public PrintHouse()",
        "public boolean PrintHouse.put(long,int)",
        "public int PrintHouse.request() throws java.lang.IllegalStateException",
        "public int PrintHouse.reply(int)",
        "public int PrintHouse.tick() throws java.lang.IllegalStateException",
        "public int PrintHouse.sheet(int)",
        "public boolean PrintHouse.stop(int) throws java.lang.IllegalStateException",
        "public boolean PrintHouse.restart()",
        "public int PrintHouse.job(int,int) throws java.lang.IllegalStateException,java.lang.IndexOutOfBoundsException",
        "public int PrintHouse.pixel(int,int,int) throws java.lang.IllegalStateException,java.lang.IndexOutOfBoundsException",
        "public int PrintHouse.count(int)"};

    public static void main(String[] args) {
        Check check = new Check("FaceTest");
        TreeSet<String> seen = new TreeSet<>();
        TreeSet<String> names = new TreeSet<>();
        for (Member member : PrintHouse.class.getDeclaredFields()) {
            see(member, seen);
        }
        for (Member member : PrintHouse.class.getDeclaredConstructors()) {
            see(member, seen);
        }
        for (Method method : PrintHouse.class.getDeclaredMethods()) {
            see(method, seen);
            check.due("two methods named " + method.getName(), names.add(method.getName()), true);
        }
        check.due("the face", String.join("\n", seen), String.join("\n", new TreeSet<>(Arrays.asList(FACE))));
        check.due("the class", Modifier.toString(PrintHouse.class.getModifiers()), "public final");
        for (Class<?> inside : PrintHouse.class.getDeclaredClasses()) {
            check.due(inside.getSimpleName() + " is static", Modifier.isStatic(inside.getModifiers()), true);
            check.due(inside.getSimpleName() + " is public", Modifier.isPublic(inside.getModifiers()), false);
            staticFieldsAreFinal(check, inside);
        }
        staticFieldsAreFinal(check, PrintHouse.class);
        check.end();
    }

    private static void see(Member member, TreeSet<String> seen) {
        if (!Modifier.isPrivate(member.getModifiers())) {
            seen.add(member.toString());
        }
    }

    private static void staticFieldsAreFinal(Check check, Class<?> owner) {
        for (Field field : owner.getDeclaredFields()) {
            if (Modifier.isStatic(field.getModifiers())) {
                check.due(field + " is final", Modifier.isFinal(field.getModifiers()), true);
            }
        }
    }
}
