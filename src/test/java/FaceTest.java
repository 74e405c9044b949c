import java.lang.reflect.Constructor;
import java.lang.reflect.Field;
import java.lang.reflect.Method;
import java.lang.reflect.Modifier;
import java.util.Set;
import java.util.TreeSet;

/** The public face is that of the document and no more, and no other method bears a name of it. */
public final class FaceTest {
    private static final String FACE = "feed5 text1 fault1 named1 bird2 chip2 period1 cross3 worst2 quiet0 sample2 bit2 "
        + "sum5 hunt4 listen2 clear3 limit2 chance4 clearest3 tune3 lock2 drop0 follow1 channel2 logged2 frame3 bad1 "
        + "errors1 latest2 off1 range2 measure1 fix1 fixWithout2 suspect0 spread1 distance2 tried2 undo0 keep0 back0 "
        + "count1";

    public static void main(String[] args) {
        Set<String> due = new TreeSet<>(Set.of(FACE.split(" ")));
        Set<String> names = new TreeSet<>();
        for (String one : due) {
            names.add(one.replaceAll("[0-9]", ""));
        }
        Set<String> got = new TreeSet<>();
        for (Method m : BirdCodes.class.getDeclaredMethods()) {
            if (m.isSynthetic()) {
                continue;
            }
            if (Modifier.isPublic(m.getModifiers())) {
                got.add(m.getName() + m.getParameterCount());
                Check.same(m.getName() + " answers an int", m.getReturnType() == int.class ? 1 : 0, 1);
                for (Class<?> type : m.getParameterTypes()) {
                    Check.same(m.getName() + " takes an int", type == int.class ? 1 : 0, 1);
                }
            } else {
                Check.same(m.getName() + " is private", Modifier.isPrivate(m.getModifiers()) ? 1 : 0, 1);
                Check.same(m.getName() + " has a name of its own", names.contains(m.getName()) ? 1 : 0, 0);
            }
        }
        Check.same("the face", got.equals(due) ? 1 : 0, 1);
        others();
        Check.same("NONE", BirdCodes.NONE, -1);
        Check.end("FaceTest");
    }

    private static void others() {
        Check.same("final", Modifier.isFinal(BirdCodes.class.getModifiers()) ? 1 : 0, 1);
        Constructor<?>[] constructors = BirdCodes.class.getDeclaredConstructors();
        Check.same("one constructor", constructors.length, 1);
        Check.same("without parameters", constructors[0].getParameterCount(), 0);
        Check.same("public", Modifier.isPublic(constructors[0].getModifiers()) ? 1 : 0, 1);
        for (Field f : BirdCodes.class.getDeclaredFields()) {
            boolean open = !Modifier.isPrivate(f.getModifiers());
            Check.same(f.getName() + " is private", open ? 1 : 0, f.getName().equals("NONE") ? 1 : 0);
            if (Modifier.isStatic(f.getModifiers())) {
                Check.same(f.getName() + " is final", Modifier.isFinal(f.getModifiers()) ? 1 : 0, 1);
            }
        }
    }
}
