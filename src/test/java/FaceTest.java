import java.lang.reflect.Constructor;
import java.lang.reflect.Field;
import java.lang.reflect.Member;
import java.lang.reflect.Method;
import java.lang.reflect.Modifier;
import java.util.TreeSet;

/** The public face: just what the document has, and nothing beside it that can be seen. */
public final class FaceTest {
    public static void main(String[] args) {
        Checks checks = new Checks();
        Class<?> face = RealOperations.class;
        TreeSet<String> seen = new TreeSet<>();
        for (Constructor<?> c : face.getDeclaredConstructors()) {
            addIfSeen(seen, c, c.toString());
        }
        for (Method m : face.getDeclaredMethods()) {
            addIfSeen(seen, m, m.toString());
        }
        for (Field f : face.getDeclaredFields()) {
            addIfSeen(seen, f, f.toString());
        }
        TreeSet<String> due = new TreeSet<>();
        String index = "java.lang.IndexOutOfBoundsException";
        String argument = "java.lang.IllegalArgumentException";
        due.add("public RealOperations()");
        due.add("public void RealOperations.control(int) throws " + argument);
        due.add("public void RealOperations.set(int,int,int,int) throws " + index + "," + argument);
        due.add("public int RealOperations.part(int,int) throws " + index + "," + argument);
        due.add("public int RealOperations.operate(int,int,int,int) throws " + index + "," + argument);
        due.add("public int RealOperations.told()");
        due.add("public void RealOperations.clear()");
        checks.same("the face", seen.toString(), due.toString());
        checks.same("the class is final", Modifier.isFinal(face.getModifiers()) ? 1 : 0, 1);
        checks.same("the class is public", Modifier.isPublic(face.getModifiers()) ? 1 : 0, 1);
        checks.end();
    }

    private static void addIfSeen(TreeSet<String> seen, Member member, String text) {
        if (!Modifier.isPrivate(member.getModifiers())) {
            seen.add(text);
        }
    }
}
