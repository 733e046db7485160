import java.lang.reflect.Constructor;
import java.lang.reflect.Field;
import java.lang.reflect.Method;
import java.lang.reflect.Modifier;
import java.util.Set;
import java.util.TreeSet;

/** The public face: all that the document lists, and nothing else that can be seen from outside. */
public final class FaceTest {
    private static final String[] FACE = {
        "public KrylovDesk(int,int,int)",
        "public boolean KrylovDesk.verify()",
        "public int KrylovDesk.attempt()",
        "public int KrylovDesk.coefficient(int)",
        "public int KrylovDesk.count(int)",
        "public int KrylovDesk.degree()",
        "public int KrylovDesk.entry(int,int,int)",
        "public int KrylovDesk.number(int)",
        "public int KrylovDesk.products()",
        "public int KrylovDesk.side(int,int)",
        "public int KrylovDesk.solution(int)",
        "public int KrylovDesk.solve(int)",
        "public static final int KrylovDesk.BAD",
        "public static final int KrylovDesk.CONSTANT",
        "public static final int KrylovDesk.NONE",
        "public static final int KrylovDesk.SOLVED",
        "public static final int KrylovDesk.WRONG",
        "public void KrylovDesk.seed(int)",
    };

    public static void main(String[] args) {
        Checks checks = new Checks();
        checks.due("the class", Modifier.toString(KrylovDesk.class.getModifiers()), "public final");
        checks.due("the face", visibleMembers().toString(), new TreeSet<>(Set.of(FACE)).toString());
        checks.due("BAD", KrylovDesk.BAD, -1);
        checks.due("SOLVED", KrylovDesk.SOLVED, 0);
        checks.due("CONSTANT", KrylovDesk.CONSTANT, 3);
        checks.due("WRONG", KrylovDesk.WRONG, 4);
        checks.due("NONE", KrylovDesk.NONE, 5);
        checks.end();
    }

    private static Set<String> visibleMembers() {
        Set<String> members = new TreeSet<>();
        for (Constructor<?> constructor : KrylovDesk.class.getDeclaredConstructors()) {
            if (!Modifier.isPrivate(constructor.getModifiers())) {
                members.add(constructor.toString());
            }
        }
        for (Method method : KrylovDesk.class.getDeclaredMethods()) {
            if (!Modifier.isPrivate(method.getModifiers())) {
                members.add(method.toString());
            }
        }
        for (Field field : KrylovDesk.class.getDeclaredFields()) {
            if (!Modifier.isPrivate(field.getModifiers())) {
                members.add(field.toString());
            }
        }
        return members;
    }
}
