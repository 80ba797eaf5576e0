import java.lang.reflect.InvocationTargetException;
import java.lang.reflect.Method;
import java.lang.reflect.Modifier;

/**
 * Every call with numbers at and beside every bound, in every state that matters: none throws, and what is refused
 * changes nothing but finding() and findings().
 */
public final class RefusalsTest extends Checks {
    private static final int[] NUMBERS = {LEAST, -1, 0, 1, 2, 3, 5, 6, 7, 8, 24, 60, 61, 63, 64, 80, 81, 200, 201, MOST};
    private static final int[] FEW = {LEAST, -1, 0, 1, 6, 60, 61, MOST};

    /** The states: new; a TOWN without LAMPS; six LAMPS, some lit, SHADED, SEEN, kept; as much done as can be. */
    private static OwnLight inState(int state) {
        OwnLight x = new OwnLight();
        if (state == 1) {
            x = town("g32 .D. #..");
        } else if (state == 2) {
            x = town("g64 D..... ..##.. ...... ...... l101 f501 c031 h532 o321 b421");
            acts(x, RIGHT, LIGHT, LEFT);
            x.shade(1, 1);
            x.keep(0);
            x.saw(0, 1);
            x.fits();
        } else if (state == 3) {
            x = town("g21D.o101");
            for (int i = 0; i < 100; i++) {
                acts(x, RIGHT, LEFT);
            }
        }
        row(x, 0, 1, 4, 0);
        x.row(1, 60);
        x.row(2, 0);
        return x;
    }

    private static int call(OwnLight x, Method method, Object[] numbers) {
        try {
            return ((Number) method.invoke(x, numbers)).intValue();
        } catch (IllegalAccessException | InvocationTargetException thrown) {
            throw new IllegalStateException(method.getName() + java.util.Arrays.toString(numbers), thrown);
        }
    }

    private static boolean isRefusal(int answer) {
        return answer == BAD || answer == FULL || answer == STATE || answer == FINDING;
    }

    private static void tried(int state, Method method, Object[] numbers) {
        int answer = call(inState(state), method, numbers);
        OwnLight x = inState(state);
        if (answer == FINDING) {
            int finding = findingOf(state, method, numbers);
            found(x, finding, () -> call(x, method, numbers));
        } else if (isRefusal(answer) || answer == NONE) {
            stays(x, answer, () -> call(x, method, numbers));
        } else {
            due(answer < 0 ? 0 : 1, 1);
        }
    }

    private static int findingOf(int state, Method method, Object[] numbers) {
        OwnLight x = inState(state);
        call(x, method, numbers);
        return x.finding();
    }

    /** Tries a call with all numbers in its places from one on. */
    private static void tryAll(int state, Method method, Object[] numbers, int place) {
        if (place == numbers.length) {
            tried(state, method, numbers.clone());
            return;
        }
        for (int number : numbers.length > 2 ? FEW : NUMBERS) {
            numbers[place] = number;
            tryAll(state, method, numbers, place + 1);
        }
    }

    /** What these tell may be any number. */
    private static boolean tellsAny(String name) {
        return name.equals("asked") || name.equals("digest") || name.equals("upper") || name.equals("lower");
    }

    public static void main(String[] args) {
        for (Method method : OwnLight.class.getDeclaredMethods()) {
            if (!Modifier.isPublic(method.getModifiers()) || tellsAny(method.getName())) {
                continue;
            }
            for (int i = 0; i < 4; i++) {
                int state = i;
                test(0, "What is refused changes nothing but finding(), findings(): " + method.getName() + "() in state " + state,
                    () -> tryAll(state, method, new Object[method.getParameterCount()], 0));
            }
        }
        end();
    }
}
