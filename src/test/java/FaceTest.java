import java.lang.reflect.Constructor;
import java.lang.reflect.Field;
import java.lang.reflect.Member;
import java.lang.reflect.Method;
import java.lang.reflect.Modifier;
import java.util.TreeSet;

/** The public face: just what the document has, and nothing beside it that can be seen. */
public final class FaceTest extends Sentences {
    private static final String INDEX = "IndexOutOfBoundsException";
    private static final String ARGUMENT = "IllegalArgumentException";

    private final TreeSet<String> seen = new TreeSet<>();

    public static void main(String[] args) {
        new FaceTest().runAlone();
    }

    @Override
    void run() {
        lookAtTheFace();
        sentence(FACE, "public final class RealOperations {");
        Class<?> face = RealOperations.class;
        same("the class is final", Modifier.isFinal(face.getModifiers()) ? 1 : 0, 1);
        same("the class is public", Modifier.isPublic(face.getModifiers()) ? 1 : 0, 1);
        same("the class has no package", face.getPackageName(), "");

        member(PROMISE_1, "RealOperations()", "public RealOperations()", "RealOperations()");
        member(PROMISE_2, "void control(int word) throws " + ARGUMENT,
                "public void control(int word) throws " + ARGUMENT,
                "void RealOperations.control(int) throws " + ARGUMENT);
        member(PROMISE_3, "void set(int r, int top, int high, int low) throws " + INDEX + ", " + ARGUMENT,
                "public void set(int r, int top, int high, int low) throws " + INDEX + ", " + ARGUMENT,
                "void RealOperations.set(int,int,int,int) throws " + INDEX + "," + ARGUMENT);
        member(PROMISE_4, "int part(int r, int what) throws " + INDEX + ", " + ARGUMENT,
                "public int part(int r, int what) throws " + INDEX + ", " + ARGUMENT,
                "int RealOperations.part(int,int) throws " + INDEX + "," + ARGUMENT);
        member(PROMISE_5, "int operate(int operation, int a, int b, int to) throws " + INDEX + ", " + ARGUMENT,
                "public int operate(int operation, int a, int b, int to) throws " + INDEX + ", " + ARGUMENT,
                "int RealOperations.operate(int,int,int,int) throws " + INDEX + "," + ARGUMENT);
        member(PROMISE_6, "int told()", "public int told()", "int RealOperations.told()");
        member(PROMISE_7, "void clear()", "public void clear()", "void RealOperations.clear()");
        same("what else can be seen", seen.toString(), "[]");
    }

    private void member(String promise, String inPromise, String inFace, String signature) {
        String due = "public " + signature;
        sentence(promise, inPromise);
        same(due, seen.contains(due) ? "is there" : "is not there", "is there");
        sentence(FACE, inFace);
        same(due, seen.remove(due) ? "is there" : "is not there", "is there");
    }

    private void lookAtTheFace() {
        Class<?> face = RealOperations.class;
        for (Constructor<?> c : face.getDeclaredConstructors()) {
            addIfSeen(c);
        }
        for (Method m : face.getDeclaredMethods()) {
            addIfSeen(m);
        }
        for (Field f : face.getDeclaredFields()) {
            addIfSeen(f);
        }
    }

    private void addIfSeen(Member member) {
        if (!Modifier.isPrivate(member.getModifiers()) && !member.isSynthetic()) {
            seen.add(member.toString().replace("java.lang.", ""));
        }
    }
}
