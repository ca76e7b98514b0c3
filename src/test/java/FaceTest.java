import java.lang.reflect.Constructor;
import java.lang.reflect.Field;
import java.lang.reflect.Method;
import java.lang.reflect.Modifier;
import java.util.HashSet;
import java.util.Set;

/** The public face, and promise 1: a new object. */
public final class FaceTest {
    private static final Check CHECK = new Check();

    private static final String FACE =
            "row/2 lay/3 at/2 tear/1 copy/5 mean/1 text/2 put/3 fault/1 street/1 house/2 mark/2 altar/1 wall/2 "
            + "hour/1 undo/1 jar/0 loud/1 made/1 tithe/1 pay/2 due/0 keep/1 on/1 "
            + "fits/1 sure/1 odds/2 thunder/2 joined/1 silence/1 rises/0 "
            + "wedding/1 feathers/3 most/0 hours/2 year/1 debt/3 balance/1 payments/0 net/0 crickets/2 sings/0 "
            + "asked/0 upper/0 lower/0 count/1 finding/0 findings/1 digest/0";

    public static void main(String[] args) {
        constants();
        members();
        classesInside();
        newObject();
        CHECK.end();
    }

    private static void constants() {
        CHECK.due("BAD", NoiseTithe.BAD, -1);
        CHECK.due("FULL", NoiseTithe.FULL, -2);
        CHECK.due("FINDING", NoiseTithe.FINDING, -3);
        CHECK.due("STATE", NoiseTithe.STATE, -4);
        CHECK.due("SPENT", NoiseTithe.SPENT, -6);
        CHECK.due("NONE", NoiseTithe.NONE, -9);
    }

    private static void members() {
        Set<String> wanted = new HashSet<>(Set.of(FACE.split(" ")));
        for (Method method : NoiseTithe.class.getDeclaredMethods()) {
            if (method.isSynthetic()) {
                continue;
            }
            boolean isPrivate = Modifier.isPrivate(method.getModifiers());
            String name = method.getName() + "/" + method.getParameterCount();
            if (isPrivate) {
                boolean isPublicOne = (" " + FACE).contains(" " + method.getName() + "/");
                CHECK.due("private, with a public name: " + name, isPublicOne ? 1 : 0, 0);
            } else {
                CHECK.due("in the document: " + name, wanted.remove(name) ? 1 : 0, 1);
                boolean isLong = Set.of("upper", "lower", "digest").contains(method.getName());
                CHECK.due("type of " + name, method.getReturnType() == (isLong ? long.class : int.class) ? 1 : 0, 1);
            }
        }
        CHECK.due("methods that are missing: " + wanted, wanted.size(), 0);
        int constants = 0;
        for (Field field : NoiseTithe.class.getDeclaredFields()) {
            constants += Modifier.isPrivate(field.getModifiers()) ? 0 : 1;
        }
        CHECK.due("constants", constants, 6);
        Constructor<?>[] constructors = NoiseTithe.class.getDeclaredConstructors();
        CHECK.due("constructors", constructors.length, 1);
        CHECK.due("public constructor", Modifier.isPublic(constructors[0].getModifiers()) ? 1 : 0, 1);
        CHECK.due("final", Modifier.isFinal(NoiseTithe.class.getModifiers()) ? 1 : 0, 1);
    }

    /** Private and static, with no private method of a public one's name, of few fields and parameters. */
    private static void classesInside() {
        for (Class<?> inside : NoiseTithe.class.getDeclaredClasses()) {
            String name = inside.getSimpleName();
            CHECK.due(name + " is private", Modifier.isPrivate(inside.getModifiers()) ? 1 : 0, 1);
            CHECK.due(name + " is static", Modifier.isStatic(inside.getModifiers()) ? 1 : 0, 1);
            CHECK.due(name + ": twenty fields at most", inside.getDeclaredFields().length <= 20 ? 1 : 0, 1);
            for (Method method : inside.getDeclaredMethods()) {
                String call = name + "." + method.getName();
                boolean isHidden = Modifier.isPrivate(method.getModifiers()) && !method.isSynthetic();
                boolean isPublicOne = (" " + FACE).contains(" " + method.getName() + "/");
                CHECK.due("private, with a public name: " + call, isHidden && isPublicOne ? 1 : 0, 0);
                CHECK.due(call + ": seven parameters at most", method.getParameterCount() <= 7 ? 1 : 0, 1);
            }
        }
    }

    private static void newObject() {
        NoiseTithe x = new NoiseTithe();
        for (int what = 0; what <= 7; what++) {
            CHECK.due("count(" + what + ") of a new object", x.count(what), 0);
        }
        for (int r = 0; r < 6; r++) {
            int row = r;
            CHECK.found("tear(" + r + ") of a new object", x, () -> x.tear(row), Check.NOTHING);
        }
        for (int t = 0; t < 4; t++) {
            int text = t;
            CHECK.found("street(" + t + ") of a new object", x, () -> x.street(text), Check.NOTHING);
        }
        for (int k = 0; k < 3; k++) {
            int place = k;
            CHECK.found("on(" + k + ") of a new object", x, () -> x.on(place), Check.NOTHING);
        }
        CHECK.refused("house(0, 0) of a new object", x, () -> x.house(0, 0), NoiseTithe.BAD);
        NoiseTithe other = new NoiseTithe();
        other.row(0, 3);
        other.jar();
        CHECK.due("count(6) of the first object", x.count(6), 0);
    }
}
