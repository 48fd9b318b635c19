import java.lang.reflect.Constructor;
import java.lang.reflect.Field;
import java.lang.reflect.Method;
import java.lang.reflect.Modifier;
import java.util.Set;
import java.util.TreeSet;

/** The public face: these members and no other one that can be seen from outside. */
public final class FaceTest {
    public static void main(String[] args) {
        Check check = new Check();
        Set<String> seen = new TreeSet<>();
        for (Constructor<?> c : AmdfPitch.class.getDeclaredConstructors()) {
            addVisible(seen, c.getModifiers(), c.toString());
        }
        for (Method m : AmdfPitch.class.getDeclaredMethods()) {
            addVisible(seen, m.getModifiers(), m.toString());
        }
        for (Field f : AmdfPitch.class.getDeclaredFields()) {
            addVisible(seen, f.getModifiers(), f.toString());
        }
        Set<String> face = Set.of(
            "public AmdfPitch()",
            "public int AmdfPitch.push(short)",
            "public int AmdfPitch.scoreAt(int)",
            "public int AmdfPitch.bestLag()");
        check.holds("visible members " + seen, seen.equals(face));

        int modifiers = AmdfPitch.class.getModifiers();
        check.holds("public class", Modifier.isPublic(modifiers));
        check.holds("final class", Modifier.isFinal(modifiers));
        check.holds("nothing extended", AmdfPitch.class.getSuperclass() == Object.class);
        check.holds("nothing implemented", AmdfPitch.class.getInterfaces().length == 0);
        check.end();
    }

    private static void addVisible(Set<String> seen, int modifiers, String member) {
        if (!Modifier.isPrivate(modifiers)) {
            seen.add(member);
        }
    }
}
