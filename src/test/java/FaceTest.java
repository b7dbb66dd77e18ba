import java.lang.reflect.Constructor;
import java.lang.reflect.Field;
import java.lang.reflect.Method;
import java.lang.reflect.Modifier;
import java.util.Set;
import java.util.TreeSet;

// The class shows the document's face and nothing beside it.
public final class FaceTest {
    public static void main(String[] args) {
        Set<String> want = new TreeSet<>(Set.of(
            "public final class CoreFinder",
            "public CoreFinder()",
            "public static final int CoreFinder.NONE",
            "public static final int CoreFinder.FULL",
            "public int CoreFinder.add(int,int)",
            "public boolean CoreFinder.remove(int)",
            "public int CoreFinder.clauses()",
            "public boolean CoreFinder.consistent(int)",
            "public int CoreFinder.witness(int)",
            "public int CoreFinder.cores()",
            "public int CoreFinder.core(int)",
            "public int CoreFinder.repairs()",
            "public int CoreFinder.repair(int)",
            "public int CoreFinder.guilty()",
            "public int CoreFinder.central()",
            "public int CoreFinder.smallestCore()",
            "public int CoreFinder.mostTogether()",
            "public boolean CoreFinder.follows(int,int)"));
        Set<String> got = visibleMembers();
        boolean right = got.equals(want) && CoreFinder.class.getSuperclass() == Object.class
            && CoreFinder.NONE == -1 && CoreFinder.FULL == -2;
        if (!right) {
            System.out.println("the face is " + got + ", NONE " + CoreFinder.NONE + ", FULL " + CoreFinder.FULL + "; due is " + want);
            System.exit(1);
        }
        System.out.println("the face is as due");
    }

    private static Set<String> visibleMembers() {
        Set<String> members = new TreeSet<>();
        members.add(CoreFinder.class.toGenericString());
        for (Class<?> shown : CoreFinder.class.getInterfaces()) {
            members.add(shown.toString());
        }
        for (Class<?> nested : CoreFinder.class.getDeclaredClasses()) {
            members.add(nested.toString());
        }
        for (Constructor<?> c : CoreFinder.class.getDeclaredConstructors()) {
            if (!Modifier.isPrivate(c.getModifiers())) {
                members.add(c.toString());
            }
        }
        for (Field f : CoreFinder.class.getDeclaredFields()) {
            if (!Modifier.isPrivate(f.getModifiers())) {
                members.add(f.toString());
            }
        }
        for (Method m : CoreFinder.class.getDeclaredMethods()) {
            if (!Modifier.isPrivate(m.getModifiers())) {
                members.add(m.toString());
            }
        }
        return members;
    }
}
