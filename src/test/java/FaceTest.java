import java.lang.reflect.Constructor;
import java.lang.reflect.Field;
import java.lang.reflect.Method;
import java.lang.reflect.Modifier;
import java.util.Set;
import java.util.TreeSet;

/** The class's face is the document's, and nothing more of it can be seen. */
public final class FaceTest {
    public static void main(String[] args) {
        Set<String> seen = new TreeSet<>();
        for (Method method : TreeServer.class.getDeclaredMethods()) {
            if (!Modifier.isPrivate(method.getModifiers())) {
                seen.add(method.toString());
            }
        }
        for (Constructor<?> constructor : TreeServer.class.getDeclaredConstructors()) {
            seen.add(constructor.toString());
        }
        for (Field field : TreeServer.class.getDeclaredFields()) {
            if (!Modifier.isPrivate(field.getModifiers())) {
                seen.add(field.toString());
            }
        }
        Check.is("face", seen.toString(), new TreeSet<>(Set.of(
            "public TreeServer()",
            "public boolean TreeServer.feed(int,long,int)",
            "public int TreeServer.waiting(int)",
            "public long TreeServer.take(int)",
            "public boolean TreeServer.hangup(int)",
            "public int TreeServer.status(int)",
            "public int TreeServer.fids(int)",
            "public void TreeServer.clock(int)",
            "public boolean TreeServer.cut(int)",
            "public boolean TreeServer.restart()",
            "public boolean TreeServer.up()",
            "public int TreeServer.nodes()",
            "public int TreeServer.free()",
            "public int TreeServer.writes()")).toString());
        Check.is("final", Modifier.isFinal(TreeServer.class.getModifiers()), true);
        Check.is("classes inside", classesAreStatic(), true);
        Check.end();
    }

    private static boolean classesAreStatic() {
        for (Class<?> inside : TreeServer.class.getDeclaredClasses()) {
            int modifiers = inside.getModifiers();
            if (!Modifier.isStatic(modifiers) || Modifier.isPublic(modifiers) || Modifier.isProtected(modifiers)) {
                return false;
            }
        }
        return true;
    }
}
