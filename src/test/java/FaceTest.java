import java.lang.reflect.Constructor;
import java.lang.reflect.Field;
import java.lang.reflect.Method;
import java.lang.reflect.Modifier;
import java.util.Set;
import java.util.TreeSet;

/** The public face: these members and no other one that can be seen from outside. */
public final class FaceTest {
    private static final Check check = new Check();

    public static void main(String[] args) {
        check.sentence("public final class AmdfPitch", FaceTest::publicFinalAndAlone);
        check.sentence("the constructor and the three methods of the face", FaceTest::membersAreThoseOfTheFace);
        check.sentence("The class has no public constants.", FaceTest::noFieldIsVisible);
        check.end();
    }

    private static void publicFinalAndAlone() {
        int modifiers = AmdfPitch.class.getModifiers();
        check.holds("public class", Modifier.isPublic(modifiers));
        check.holds("final class", Modifier.isFinal(modifiers));
        check.holds("nothing extended", AmdfPitch.class.getSuperclass() == Object.class);
        check.holds("nothing implemented", AmdfPitch.class.getInterfaces().length == 0);
        check.holds("nothing nested", AmdfPitch.class.getDeclaredClasses().length == 0);
    }

    private static void membersAreThoseOfTheFace() {
        Set<String> seen = new TreeSet<>();
        for (Constructor<?> c : AmdfPitch.class.getDeclaredConstructors()) {
            addVisible(seen, c.getModifiers(), c.toString());
        }
        for (Method m : AmdfPitch.class.getDeclaredMethods()) {
            addVisible(seen, m.getModifiers(), m.toString());
        }
        Set<String> face = Set.of(
            "public AmdfPitch()",
            "public int AmdfPitch.push(short)",
            "public int AmdfPitch.scoreAt(int)",
            "public int AmdfPitch.bestLag()");
        check.holds("visible members " + seen, seen.equals(face));
    }

    private static void noFieldIsVisible() {
        Set<String> seen = new TreeSet<>();
        for (Field f : AmdfPitch.class.getDeclaredFields()) {
            addVisible(seen, f.getModifiers(), f.toString());
        }
        check.holds("visible fields " + seen, seen.isEmpty());
    }

    private static void addVisible(Set<String> seen, int modifiers, String member) {
        if (!Modifier.isPrivate(modifiers)) {
            seen.add(member);
        }
    }
}
