import java.lang.reflect.InvocationTargetException;
import java.lang.reflect.Method;
import java.lang.reflect.Modifier;
import java.util.ArrayList;
import java.util.Arrays;
import java.util.Comparator;
import java.util.List;
import java.util.Set;

/**
 * That the machine itself never throws: runs of calls with arguments of all kinds, drawn from fixed seeds, in states of
 * all kinds. What comes out of a call is an answer, or an exception that the document names for this call and that a
 * test of the class threw by its own statement.
 */
public final class MachineTest {
    private static final int CALLS = 512;
    private static final int[] BOUNDS = {5, 8, 9, 15, 16, 23, 24, 30, 45, 50, 59, 60, 61, 99, 100, 101, 120, 121, 300, 480,
        540, 600, 601, 900, 901, 1020, 1439, 1440, 2000, 2001, 9999, 10000, 50000, 50001, 99999, 100000, 100001, 9000000,
        9000001};
    private static final int[] FAR = {Integer.MIN_VALUE, Integer.MIN_VALUE + 1, -1000000, -17, -3, -2, -1, 1 << 16,
        Integer.MAX_VALUE / 2, Integer.MAX_VALUE / 60, Integer.MAX_VALUE - 1, Integer.MAX_VALUE};
    private static final Set<String> BEGINNING = Set.of("street", "parcel", "window", "van", "setZone", "locker");
    private static int wrong = 0;
    private static int refused = 0;
    private static int calls = 0;
    private static long state;

    public static void main(String[] args) throws IllegalAccessException {
        int runs = args.length > 0 ? Integer.parseInt(args[0]) : 300;
        List<Method> face = face();
        for (int seed = 1; seed <= runs && wrong < 20; seed++) {
            state = seed * 0x9E3779B97F4A7C15L + 98765;
            Couriersday day = new Couriersday();
            for (int i = 0; i < CALLS - 1; i++) {
                Method one = face.get(below(i < 80 ? BEGINNING.size() : face.size()));
                make(seed, day, one);
            }
            if (day.errors() != 0) {
                tell("seed " + seed + ": errors() is " + day.errors());
            }
        }
        System.out.println(calls + " calls, " + refused + " of them refused, " + wrong + " wrong");
        if (wrong != 0 || refused == 0 || refused == calls) {
            System.exit(1);
        }
    }

    private static void tell(String line) {
        wrong++;
        System.out.println(line);
    }

    /** The calls of the face; those that a day begins with stand first. */
    private static List<Method> face() {
        List<Method> all = new ArrayList<>();
        for (Method one : Couriersday.class.getDeclaredMethods()) {
            if (Modifier.isPublic(one.getModifiers())) {
                all.add(one);
            }
        }
        all.sort(Comparator.comparing(one -> (BEGINNING.contains(one.getName()) ? "" : "~") + one.getName()));
        return all;
    }

    private static int below(int bound) {
        state = state * 6364136223846793005L + 1442695040888963407L;
        return (int) ((state >>> 33) % bound);
    }

    private static int number() {
        int kind = below(40);
        if (kind < 28) {
            return below(kind < 14 ? 4 : 10);
        }
        if (kind < 33) {
            return below(1500);
        }
        return kind < 38 ? BOUNDS[below(BOUNDS.length)] : FAR[below(FAR.length)];
    }

    /** Numbers that the call takes as things often stand: the least and the greatest one of each argument. */
    private static int[] ordinary(String name) {
        switch (name) {
            case "street": return new int[] {0, 5, 0, 5, 1, 20, 1, 900, 0, 99};
            case "factor": return new int[] {0, 23, 50, 300};
            case "way": return new int[] {0, 5, 0, 5, 0, 2};
            case "arrival": return new int[] {0, 5, 0, 5, 0, 1439};
            case "clock": return new int[] {0, 23, 0, 59, 0, 100000};
            case "parcel": return new int[] {1, 5, 1, 30, 0, 2};
            case "window": return new int[] {0, 8, 0, 700, 700, 1439, 0, 30};
            case "van": return new int[] {60, 300, 0, 600, 700, 2000};
            case "put": return new int[] {0, 2, 0, 3, 0, 8};
            case "turned": return new int[] {0, 2, 0, 2, 1, 4};
            case "swapEnds": return new int[] {0, 2, 0, 3, 0, 2, 0, 3};
            case "roundAt": return new int[] {0, 2, -1, 5};
            case "ofRound": return new int[] {0, 2, 0, 8};
            case "does": return new int[] {0, 2, 0, 1500};
            case "rules": return new int[] {30, 200, 5, 60, 60, 900};
            case "piece": return new int[] {0, 2, 1, 60};
            case "leastTime": return new int[] {0, 500};
            case "locker": return new int[] {1, 5, 1, 2};
            case "parcelAt": return new int[] {0, 8, 0, 6};
            case "setZone": return new int[] {1, 5, 0, 2};
            case "zone": return new int[] {0, 1, 0, 5};
            case "together": return new int[] {0, 7};
            case "rates": return new int[] {0, 9999, 0, 9999};
            case "pay": return new int[] {0, 9000000, 0, 99999};
            case "books": return new int[] {-1, 20};
            case "share": case "savings": case "better": case "exact": case "filled": return new int[] {0, 2};
            default: return new int[] {0, 8, 0, 8};
        }
    }

    private static Object[] draw(Method one) {
        Class<?>[] kinds = one.getParameterTypes();
        int[] bounds = ordinary(one.getName());
        Object[] arguments = new Object[kinds.length];
        for (int i = 0; i < kinds.length; i++) {
            int drawn = bounds[2 * i] + below(bounds[2 * i + 1] - bounds[2 * i] + 1);
            if (kinds[i] == boolean.class) {
                arguments[i] = below(2) == 0;
            } else {
                arguments[i] = below(20) == 0 ? number() : drawn;
            }
        }
        return arguments;
    }

    private static void make(int seed, Couriersday day, Method one) throws IllegalAccessException {
        Object[] arguments = draw(one);
        calls++;
        try {
            one.invoke(day, arguments);
        } catch (InvocationTargetException e) {
            refused++;
            look("seed " + seed + ": " + one.getName() + Arrays.toString(arguments), one, e.getCause());
        }
    }

    private static void look(String call, Method one, Throwable thrown) {
        if (!Arrays.asList(one.getExceptionTypes()).contains(thrown.getClass())) {
            tell(call + " threw " + thrown);
            return;
        }
        StackTraceElement[] frames = thrown.getStackTrace();
        String thrower = frames.length == 0 ? "" : frames[0].getClassName() + "." + frames[0].getMethodName();
        if (!thrower.startsWith("Couriersday.need")) {
            tell(call + " threw " + thrown + " not by a test of the class");
        }
    }
}
