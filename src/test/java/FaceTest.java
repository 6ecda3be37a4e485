import java.lang.reflect.Constructor;
import java.lang.reflect.Field;
import java.lang.reflect.Method;
import java.lang.reflect.Modifier;
import java.util.Set;
import java.util.TreeSet;

/** The class has the members of the document's face and shows no others. */
public final class FaceTest {
    private static final Set<String> FACE = Set.of(
            "public static final int PathAlgebra.BAD_LABEL = -1",
            "public static final int PathAlgebra.BAD_NODE = -2",
            "public static final int PathAlgebra.FULL = -3",
            "public static final int PathAlgebra.STACK_LOW = -4",
            "public static final int PathAlgebra.NO_PATH = -5",
            "public PathAlgebra()",
            "public int PathAlgebra.edge(int,int,boolean)",
            "public int PathAlgebra.label(int)",
            "public int PathAlgebra.back(int)",
            "public int PathAlgebra.at(int)",
            "public int PathAlgebra.then()",
            "public int PathAlgebra.or()",
            "public int PathAlgebra.star()",
            "public void PathAlgebra.clear()",
            "public boolean PathAlgebra.leads(int,int)",
            "public int PathAlgebra.shortest(int,int)",
            "public int PathAlgebra.reach(int)",
            "public int PathAlgebra.pairs()",
            "public int PathAlgebra.loops()",
            "public int PathAlgebra.widest()",
            "public int PathAlgebra.steps()");

    /** The value is asked for only of constants that can be seen, since others have none to show. */
    private static String withValue(Field f) throws IllegalAccessException {
        boolean constant = Modifier.isPublic(f.getModifiers()) && Modifier.isStatic(f.getModifiers());
        return constant ? f + " = " + f.get(null) : f.toString();
    }

    private static Set<String> shown() throws IllegalAccessException {
        Set<String> members = new TreeSet<>();
        for (Field f : PathAlgebra.class.getDeclaredFields()) {
            if (!Modifier.isPrivate(f.getModifiers())) {
                members.add(withValue(f));
            }
        }
        for (Method m : PathAlgebra.class.getDeclaredMethods()) {
            if (!Modifier.isPrivate(m.getModifiers())) {
                members.add(m.toString());
            }
        }
        for (Constructor<?> c : PathAlgebra.class.getDeclaredConstructors()) {
            members.add(c.toString());
        }
        return members;
    }

    private static boolean privateNamesDiffer() {
        Set<String> seen = new TreeSet<>();
        for (Method m : PathAlgebra.class.getDeclaredMethods()) {
            if (!seen.add(m.getName())) {
                return false;
            }
        }
        return true;
    }

    /** What is inherited can be seen from outside too, so only Object may be inherited from. */
    private static boolean inheritsFromObjectAlone(Class<?> c) {
        return c.getSuperclass() == Object.class && c.getInterfaces().length == 0;
    }

    private static int failed(String what, boolean holds) {
        if (!holds) {
            System.out.println("does not hold: " + what);
        }
        return holds ? 0 : 1;
    }

    public static void main(String[] args) throws IllegalAccessException {
        Class<?> c = PathAlgebra.class;
        Set<String> missing = new TreeSet<>(FACE);
        missing.removeAll(shown());
        Set<String> extra = new TreeSet<>(shown());
        extra.removeAll(FACE);
        int wrong = failed("no member is missing: " + missing, missing.isEmpty())
                + failed("no other member is shown: " + extra, extra.isEmpty())
                + failed("public and final, no more", c.toGenericString().equals("public final class PathAlgebra"))
                + failed("inherits from Object alone", inheritsFromObjectAlone(c))
                + failed("no nested classes", c.getDeclaredClasses().length == 0)
                + failed("no two methods of one name", privateNamesDiffer());
        System.out.println(wrong == 0 ? "the face is as due" : wrong + " things do not hold");
        if (wrong != 0) {
            System.exit(1);
        }
    }
}
