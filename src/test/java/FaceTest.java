import java.lang.reflect.Constructor;
import java.lang.reflect.Field;
import java.lang.reflect.Method;
import java.lang.reflect.Modifier;
import java.util.Arrays;
import java.util.Set;
import java.util.TreeSet;

/** The class shows the document's public face and nothing beside it. */
public final class FaceTest {
    private static final Set<String> FACE = new TreeSet<>(Arrays.asList(
        "public CheckpointedStore()",
        "public int CheckpointedStore.write(int,int,int)",
        "public int CheckpointedStore.writeKey(int,int,int)",
        "public int CheckpointedStore.copy(int,int,int,int)",
        "public int CheckpointedStore.rescind(int)",
        "public int CheckpointedStore.key(int,int)",
        "public int CheckpointedStore.number(int,int)",
        "public int CheckpointedStore.follow(int,int,int)",
        "public int CheckpointedStore.snapshot()",
        "public int CheckpointedStore.settle()",
        "public void CheckpointedStore.crash()",
        "public void CheckpointedStore.idle(int)",
        "public int CheckpointedStore.keysTo(int)"));

    public static void main(String[] args) {
        Class<CheckpointedStore> type = CheckpointedStore.class;
        Set<String> shown = new TreeSet<>();
        for (Constructor<?> constructor : type.getDeclaredConstructors()) {
            addUnlessPrivate(shown, constructor.getModifiers(), constructor.toString());
        }
        for (Method method : type.getDeclaredMethods()) {
            addUnlessPrivate(shown, method.getModifiers(), method.toString());
        }
        for (Field field : type.getDeclaredFields()) {
            addUnlessPrivate(shown, field.getModifiers(), field.toString());
        }
        int wrong = 0;
        if (!shown.equals(FACE)) {
            wrong++;
            System.out.println("the class shows " + shown + ", due is " + FACE);
        }
        if (type.getModifiers() != (Modifier.PUBLIC | Modifier.FINAL) || type.getSuperclass() != Object.class
                || type.getInterfaces().length != 0 || type.getDeclaredClasses().length != 0) {
            wrong++;
            System.out.println("the class is not public and final, or extends, implements or nests something");
        }
        System.out.println(wrong == 0 ? "the face is as due" : "the face is not as due");
        if (wrong != 0) {
            System.exit(1);
        }
    }

    private static void addUnlessPrivate(Set<String> shown, int modifiers, String member) {
        if (!Modifier.isPrivate(modifiers)) {
            shown.add(member);
        }
    }
}
