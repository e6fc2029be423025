import java.lang.reflect.Constructor;
import java.lang.reflect.Field;
import java.lang.reflect.Method;
import java.lang.reflect.Modifier;
import java.util.Set;
import java.util.TreeSet;

/** The class has the members of the document's face, and no other one that is not private. */
public final class FaceTest {
    private static final Set<String> FACE = Set.of(
            "public static final int BAD_ARG",
            "public static final int FULL",
            "public static final int NONE",
            "public ModelCounter()",
            "public int ModelCounter.literal(int)",
            "public void ModelCounter.scrap()",
            "public int ModelCounter.clause()",
            "public int ModelCounter.unclause()",
            "public int ModelCounter.clauses()",
            "public int ModelCounter.weight(int,int,int)",
            "public int ModelCounter.count()",
            "public int ModelCounter.countWith(int,int)",
            "public int ModelCounter.countSize(int)",
            "public int ModelCounter.weighted()",
            "public int ModelCounter.share(int,int)",
            "public int ModelCounter.model(int)",
            "public int ModelCounter.rank(int)",
            "public boolean ModelCounter.isModel(int)",
            "public int ModelCounter.alwaysTrue()",
            "public int ModelCounter.alwaysFalse()",
            "public int ModelCounter.idle()",
            "public int ModelCounter.leastTrue()");

    private static Set<String> seenFromOutside() {
        Set<String> seen = new TreeSet<>();
        for (Field f : ModelCounter.class.getDeclaredFields()) {
            if (!Modifier.isPrivate(f.getModifiers())) {
                seen.add(Modifier.toString(f.getModifiers()) + " " + f.getType().getName() + " " + f.getName());
            }
        }
        for (Constructor<?> c : ModelCounter.class.getDeclaredConstructors()) {
            seen.add(c.toString());
        }
        for (Method m : ModelCounter.class.getDeclaredMethods()) {
            if (!Modifier.isPrivate(m.getModifiers())) {
                seen.add(m.toString());
            }
        }
        return seen;
    }

    public static void main(String[] args) {
        int wrong = 0;
        Set<String> seen = seenFromOutside();
        for (String member : FACE) {
            if (!seen.contains(member)) {
                wrong++;
                System.out.println("missing: " + member);
            }
        }
        for (String member : seen) {
            if (!FACE.contains(member)) {
                wrong++;
                System.out.println("not in the document: " + member);
            }
        }
        int modifiers = ModelCounter.class.getModifiers();
        if (modifiers != (Modifier.PUBLIC | Modifier.FINAL)) {
            wrong++;
            System.out.println("the class is " + Modifier.toString(modifiers) + ", due is public final");
        }
        System.out.println(wrong == 0 ? "the face is as due" : wrong + " faults in the face");
        if (wrong != 0) {
            System.exit(1);
        }
    }
}
