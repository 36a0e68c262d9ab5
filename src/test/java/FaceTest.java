import java.lang.reflect.Constructor;
import java.lang.reflect.InvocationTargetException;
import java.lang.reflect.Method;
import java.lang.reflect.Modifier;
import java.util.Arrays;
import java.util.Random;

/** The face has what the document tells and no more, and no call throws but element(), whatever it is given. */
public final class FaceTest {
    private static final Check CHECK = new Check("FaceTest");
    private static final int[] EDGES = {Integer.MIN_VALUE, -32768, -1000, -129, -128, -2, -1, 0, 1, 2, 3, 5, 6, 7, 8, 9,
        10, 11, 12, 13, 20, 31, 32, 60, 61, 63, 64, 99, 100, 101, 999, 1000, 65536, Integer.MAX_VALUE};

    /** The face as the document writes it, by name; "long " ahead of those that answer longs. */
    private static final String[] FACE = {"college 1", "student 2", "error 2", "comes 1", "errs 4", "corrects 2", "sends 1",
        "weeks 1", "marksThen 2", "sizeThen 2", "firstThen 1", "firstWhen 1", "degree 2", "next 1", "farthest 2", "cite 2",
        "correct 2", "cited 2", "long worth 2", "nets 1", "topics 1", "votes 1", "slips 1", "examiners 1", "order 1",
        "whatIs 3", "two 2", "long odds 4", "long mean 1", "forged 1", "judge 1", "terms 3", "image 0", "restore 0",
        "count 1", "keep 4", "row 3", "put 3", "long element 2", "copy 5", "cost 1", "toss 1"};

    public static void main(String[] args) throws Exception {
        face();
        asWritten();
        names();
        for (int seed = 0; seed < 400; seed++) {
            anyCalls(new Random(seed), seed);
        }
        CHECK.end();
    }

    private static void face() {
        int methods = 0;
        for (Method method : DegreeInMistakes.class.getDeclaredMethods()) {
            int modifiers = method.getModifiers();
            if (Modifier.isPublic(modifiers)) {
                methods++;
            } else {
                CHECK.due(method.getName() + " is private", Modifier.isPrivate(modifiers) ? 1 : 0, 1);
            }
        }
        CHECK.due("public methods", methods, 42);
        CHECK.due("public fields", DegreeInMistakes.class.getFields().length, 0);
        Constructor<?>[] constructors = DegreeInMistakes.class.getConstructors();
        CHECK.due("public constructors", constructors.length, 1);
        CHECK.due("its parameters", constructors[0].getParameterCount(), 0);
    }

    private static void asWritten() throws Exception {
        for (String told : FACE) {
            String[] words = told.split(" ");
            boolean answersLong = words.length == 3;
            String name = words[words.length - 2];
            Class<?>[] given = new Class<?>[Integer.parseInt(words[words.length - 1])];
            Arrays.fill(given, int.class);
            Method method = DegreeInMistakes.class.getMethod(name, given);
            CHECK.due(name + " answers as told", method.getReturnType() == (answersLong ? long.class : int.class) ? 1 : 0, 1);
            CHECK.due(name + " is an object's", Modifier.isStatic(method.getModifiers()) ? 1 : 0, 0);
            boolean throwsAsTold = Arrays.equals(method.getExceptionTypes(), name.equals("element")
                ? new Class<?>[] {IllegalArgumentException.class, IllegalStateException.class} : new Class<?>[0]);
            CHECK.due(name + " throws as told", throwsAsTold ? 1 : 0, 1);
        }
        int modifiers = DegreeInMistakes.class.getModifiers();
        CHECK.due("public and final", Modifier.isPublic(modifiers) && Modifier.isFinal(modifiers) ? 1 : 0, 1);
        CHECK.due("calls", FACE.length, 42);
    }

    /** LANGUAGE.md, rules 1 and 11: no method inside bears the name of one of the face; some twelve classes. */
    private static void names() {
        Class<?>[] inside = DegreeInMistakes.class.getDeclaredClasses();
        CHECK.due("classes inside, 11 at most", inside.length <= 11 ? 1 : 0, 1);
        for (String told : FACE) {
            String name = told.replace("long ", "").split(" ")[0];
            for (Class<?> one : inside) {
                for (Method method : one.getDeclaredMethods()) {
                    CHECK.due(one.getName() + " has " + name, method.getName().equals(name) ? 1 : 0, 0);
                }
            }
            for (Method method : DegreeInMistakes.class.getDeclaredMethods()) {
                boolean clash = method.getName().equals(name) && !Modifier.isPublic(method.getModifiers());
                CHECK.due("a private " + name, clash ? 1 : 0, 0);
            }
        }
    }

    private static void anyCalls(Random chance, int seed) throws Exception {
        DegreeInMistakes x = new DegreeInMistakes();
        Method[] methods = DegreeInMistakes.class.getDeclaredMethods();
        // Not every seed fills shelves and college, so that calls meet empty ones, too.
        if (seed % 3 != 0) {
            Check.tell(x, "s35;s17;s09;s61;e014099;e115099;e013000;e223099;e332001;e004404;w05;");
        }
        for (int i = 0; i < 300; i++) {
            Method method = methods[chance.nextInt(methods.length)];
            if (Modifier.isPublic(method.getModifiers())) {
                call(x, method, chance);
            }
        }
    }

    private static void call(DegreeInMistakes x, Method method, Random chance) throws Exception {
        Object[] given = new Object[method.getParameterCount()];
        StringBuilder told = new StringBuilder(method.getName());
        for (int i = 0; i < given.length; i++) {
            int value = chance.nextInt(4) == 0 ? EDGES[chance.nextInt(EDGES.length)] : chance.nextInt(7);
            given[i] = value;
            told.append(' ').append(value);
        }
        try {
            method.invoke(x, given);
        } catch (InvocationTargetException e) {
            Throwable thrown = e.getCause();
            boolean told40 = method.getName().equals("element")
                && (thrown.getClass() == IllegalArgumentException.class || thrown.getClass() == IllegalStateException.class);
            CHECK.due(told + " throws " + thrown.getClass().getName(), told40 ? 0 : 1, 0);
        }
    }
}
