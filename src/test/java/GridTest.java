import java.lang.reflect.InvocationTargetException;
import java.lang.reflect.Method;
import java.lang.reflect.Modifier;
import java.util.Arrays;

/**
 * Every call with every choice of arguments at and beyond the edges, asked of objects in several states: it answers as
 * the plain model does, never throws, and if it is refused the digest stays.
 */
public final class GridTest {
    private static final int MIN = Integer.MIN_VALUE, MAX = Integer.MAX_VALUE;
    /** For calls with one or two arguments, and for those with three. */
    private static final int[] WIDE = {MIN, MIN + 1, -104, -103, -102, -101, -2, -1, 0, 1, 2, 3, 4, 5, 6, 7, 8, 9, 10, 11,
        15, 16, 30, 31, 32, 33, 48, 59, 60, 61, 63, 64, 126, 127, 128, 256, 65536, 1 << 30, MAX - 1, MAX};
    private static final int[] NARROW = {MIN, -2, -1, 0, 1, 2, 3, 4, 5, 6, 60, 61, MAX};
    private static final String LAW = "letter 50,letter 50,letter 50,letter 50,letter 50,letter 48,letter 59,letter 50,law";
    private static final String FILES = LAW + ",file 0 0,file 1 1,file 2 2,file 3 3,file 4 5,point 0 1,point 3 2";
    private static final String[] STATES = {
        "",
        "letter 49,ashes -1,ashes 0",
        "letter 49,letter 49,letter 49,letter 49,letter 49,letter 53,letter 59,letter 57,letter 57,letter 57",
        LAW,
        LAW + ",file 4 5,copy 0 0,image,burn 5,ashes 0,letter 50",
        FILES + ",copy 4 0,burn 2,ashes 31,ashes -1,image",
        FILES + ",burn 0,burn 2,burn 2,burn 2,image,ashes -1,ashes 0,ashes 1,ashes -1,ashes 27",
    };
    private static final Due due = new Due();

    public static void main(String[] args) throws IllegalAccessException {
        for (String state : STATES) {
            for (Method method : BurntLetters.class.getDeclaredMethods()) {
                if (Modifier.isPublic(method.getModifiers())) {
                    askAll(state, method);
                }
            }
        }
        due.end();
    }

    private static void askAll(String state, Method method) throws IllegalAccessException {
        int many = method.getParameterCount();
        int[] values = many > 2 ? NARROW : WIDE;
        int[] places = new int[many];
        boolean more = true;
        while (more && due.wrong() < 20) {
            int[] arguments = Arrays.stream(places).map(place -> values[place]).toArray();
            ask(state, method.getName(), arguments);
            int at = 0;
            while (at < many && ++places[at] == values.length) {
                places[at++] = 0;
            }
            more = at < many;
        }
    }

    private static void ask(String state, String name, int[] arguments) throws IllegalAccessException {
        BurntLetters x = new BurntLetters();
        Model model = new Model();
        for (String step : state.split(",")) {
            if (!step.isEmpty()) {
                String[] words = step.split(" ");
                int[] of = Arrays.stream(words).skip(1).mapToInt(Integer::parseInt).toArray();
                due.is("{" + state + "} " + step, call(x, words[0], of), call(model, words[0], of));
            }
        }
        String asked = "{" + state + "} " + name + Arrays.toString(arguments);
        long before = x.digest();
        long answer = call(x, name, arguments);
        due.is(asked, answer, call(model, name, arguments));
        boolean refused = !name.equals("digest") && answer <= Due.UNKNOWN && answer >= Due.FULL;
        due.is(asked + ", and digest()", x.digest(), refused ? before : model.digest());
    }

    private static long call(Object of, String name, int[] arguments) throws IllegalAccessException {
        Class<?>[] types = new Class<?>[arguments.length];
        Arrays.fill(types, int.class);
        Object[] boxed = Arrays.stream(arguments).boxed().toArray();
        try {
            return ((Number) of.getClass().getDeclaredMethod(name, types).invoke(of, boxed)).longValue();
        } catch (NoSuchMethodException | InvocationTargetException e) {
            due.isTrue(name + Arrays.toString(arguments) + " of " + of.getClass() + ": " + e.getCause(), false);
            return Long.MIN_VALUE;
        }
    }
}
