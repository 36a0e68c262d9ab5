import java.lang.reflect.Constructor;
import java.lang.reflect.InvocationTargetException;
import java.lang.reflect.Method;
import java.lang.reflect.Modifier;
import java.util.Random;

/** The face has what the document tells and no more, and no call throws but element(), whatever it is given. */
public final class FaceTest {
    private static final Check CHECK = new Check("FaceTest");
    private static final int[] EDGES = {Integer.MIN_VALUE, -32768, -1000, -129, -128, -2, -1, 0, 1, 2, 3, 5, 6, 7, 8, 9,
        10, 11, 12, 13, 20, 31, 32, 60, 61, 63, 64, 99, 100, 101, 999, 1000, 65536, Integer.MAX_VALUE};

    public static void main(String[] args) throws Exception {
        face();
        for (int seed = 0; seed < 400; seed++) {
            anyCalls(new Random(seed), seed);
        }
        CHECK.end();
    }

    private static void face() {
        int methods = 0;
        for (Method method : DegreeInMistakes.class.getDeclaredMethods()) {
            int modifiers = method.getModifiers();
            if (Modifier.isPublic(modifiers)) {
                methods++;
            } else {
                CHECK.due(method.getName() + " is private", Modifier.isPrivate(modifiers) ? 1 : 0, 1);
            }
        }
        CHECK.due("public methods", methods, 42);
        CHECK.due("public fields", DegreeInMistakes.class.getFields().length, 0);
        Constructor<?>[] constructors = DegreeInMistakes.class.getConstructors();
        CHECK.due("public constructors", constructors.length, 1);
        CHECK.due("its parameters", constructors[0].getParameterCount(), 0);
    }

    private static void anyCalls(Random chance, int seed) throws Exception {
        DegreeInMistakes x = new DegreeInMistakes();
        Method[] methods = DegreeInMistakes.class.getDeclaredMethods();
        // Not every seed fills shelves and college, so that calls meet empty ones, too.
        if (seed % 3 != 0) {
            Check.tell(x, "s35;s17;s09;s61;e014099;e115099;e013000;e223099;e332001;e004404;w05;");
        }
        for (int i = 0; i < 300; i++) {
            Method method = methods[chance.nextInt(methods.length)];
            if (Modifier.isPublic(method.getModifiers())) {
                call(x, method, chance);
            }
        }
    }

    private static void call(DegreeInMistakes x, Method method, Random chance) throws Exception {
        Object[] given = new Object[method.getParameterCount()];
        StringBuilder told = new StringBuilder(method.getName());
        for (int i = 0; i < given.length; i++) {
            int value = chance.nextInt(4) == 0 ? EDGES[chance.nextInt(EDGES.length)] : chance.nextInt(7);
            given[i] = value;
            told.append(' ').append(value);
        }
        try {
            method.invoke(x, given);
        } catch (InvocationTargetException e) {
            Throwable thrown = e.getCause();
            boolean told40 = method.getName().equals("element")
                && (thrown.getClass() == IllegalArgumentException.class || thrown.getClass() == IllegalStateException.class);
            CHECK.due(told + " throws " + thrown.getClass().getName(), told40 ? 0 : 1, 0);
        }
    }
}
