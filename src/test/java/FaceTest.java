import java.lang.reflect.Constructor;
import java.lang.reflect.Field;
import java.lang.reflect.Method;
import java.lang.reflect.Modifier;
import java.util.Set;
import java.util.TreeSet;

/** The class has the members of the document's face and shows no others. */
public final class FaceTest {
    private static final Set<String> FACE = Set.of(
            "public static final int PathAlgebra.BAD_LABEL",
            "public static final int PathAlgebra.BAD_NODE",
            "public static final int PathAlgebra.FULL",
            "public static final int PathAlgebra.STACK_LOW",
            "public static final int PathAlgebra.NO_PATH",
            "public PathAlgebra()",
            "public int PathAlgebra.edge(int,int,boolean)",
            "public int PathAlgebra.label(int)",
            "public int PathAlgebra.back(int)",
            "public int PathAlgebra.at(int)",
            "public int PathAlgebra.then()",
            "public int PathAlgebra.or()",
            "public int PathAlgebra.star()",
            "public void PathAlgebra.clear()",
            "public boolean PathAlgebra.leads(int,int)",
            "public int PathAlgebra.shortest(int,int)",
            "public int PathAlgebra.reach(int)",
            "public int PathAlgebra.pairs()",
            "public int PathAlgebra.loops()",
            "public int PathAlgebra.widest()",
            "public int PathAlgebra.steps()");

    private static Set<String> shown() {
        Set<String> members = new TreeSet<>();
        for (Field f : PathAlgebra.class.getDeclaredFields()) {
            if (!Modifier.isPrivate(f.getModifiers())) {
                members.add(f.toString());
            }
        }
        for (Method m : PathAlgebra.class.getDeclaredMethods()) {
            if (!Modifier.isPrivate(m.getModifiers())) {
                members.add(m.toString());
            }
        }
        for (Constructor<?> c : PathAlgebra.class.getDeclaredConstructors()) {
            members.add(c.toString());
        }
        return members;
    }

    private static boolean privateNamesDiffer() {
        Set<String> seen = new TreeSet<>();
        for (Method m : PathAlgebra.class.getDeclaredMethods()) {
            if (!seen.add(m.getName())) {
                return false;
            }
        }
        return true;
    }

    private static int failed(String what, boolean holds) {
        if (!holds) {
            System.out.println("does not hold: " + what);
        }
        return holds ? 0 : 1;
    }

    public static void main(String[] args) {
        Class<?> c = PathAlgebra.class;
        Set<String> missing = new TreeSet<>(FACE);
        missing.removeAll(shown());
        Set<String> extra = new TreeSet<>(shown());
        extra.removeAll(FACE);
        int wrong = failed("no member is missing: " + missing, missing.isEmpty())
                + failed("no other member is shown: " + extra, extra.isEmpty())
                + failed("public and final", Modifier.isPublic(c.getModifiers()) && Modifier.isFinal(c.getModifiers()))
                + failed("no nested classes", c.getDeclaredClasses().length == 0)
                + failed("no two methods of one name", privateNamesDiffer());
        System.out.println(wrong == 0 ? "the face is as due" : wrong + " things do not hold");
        if (wrong != 0) {
            System.exit(1);
        }
    }
}
