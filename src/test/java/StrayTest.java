import java.lang.reflect.InvocationTargetException;
import java.lang.reflect.Method;
import java.lang.reflect.Modifier;
import java.util.ArrayList;
import java.util.Comparator;
import java.util.List;

/** No call throws, whatever it is given in whatever state; and what is refused changes nothing but status(). */
public final class StrayTest {
    private static final int[] NUMBERS = {
        Integer.MIN_VALUE, -1000001, -2, -1, 0, 1, 2, 7, 15, 40, 41, Integer.MAX_VALUE,
    };
    private static final String FULL = "law 1;buyer 1 200;buyer 5 200;buyer 0 3;buyer 2 0;"
        + "ware fruit 6 1;ware melon 4 3;ware berry 9 2;ware cloth 5 0;ware silk 2 7;ware fruit 3 3;"
        + "ware silk 30 9;ware cloth 0 0;ware melon 0 0;ware fruit 30 0;";

    private static Method now;
    private static List<Integer> ahead;

    public static void main(String[] args) throws ReflectiveOperationException {
        HeapEnds empty = new HeapEnds();
        all(empty);
        HeapEnds none = Due.read("law 0;");
        all(none);
        HeapEnds few = Due.read("law 1;buyer 1 9;buyer 4 9;ware silk 1 1;");
        Due.tell(few, 0, 0, 1, 0);
        all(few);
        HeapEnds many = Due.read(FULL);
        for (int ware = 10; ware < 16; ware++) {
            many.lay(1 + ware % 5, ware, ware % 2);
        }
        many.image(0);
        for (int row = 0; row < 3; row++) {
            many.row(row, row, 40);
        }
        all(many);
        Due.end("StrayTest");
    }

    private static void all(HeapEnds x) throws ReflectiveOperationException {
        List<Method> calls = new ArrayList<>();
        for (Method m : HeapEnds.class.getDeclaredMethods()) {
            if (Modifier.isPublic(m.getModifiers())) {
                calls.add(m);
            }
        }
        calls.sort(Comparator.comparing(Method::getName));
        ahead = seen(x);
        for (Method m : calls) {
            now = m;
            given(x, new Object[m.getParameterCount()], 0);
        }
    }

    private static void given(HeapEnds x, Object[] args, int k) throws ReflectiveOperationException {
        if (k < args.length) {
            for (int number : NUMBERS) {
                args[k] = now.getParameterTypes()[k] == long.class ? (Object) (long) number : (Object) number;
                given(x, args, k + 1);
            }
            return;
        }
        try {
            int answer = (int) now.invoke(x, args);
            boolean refused = answer <= HeapEnds.BAD && answer >= HeapEnds.FULL
                || answer <= -1000011 && answer >= -1000015;
            // A set may give such a number where it is what the item became.
            if (!refused || now.getName().equals("set")) {
                ahead = seen(x);
            } else if (args.length <= 3) {
                Due.due(told(args) + " refused leaves all", ahead.equals(seen(x)) ? 1 : 0, 1);
            }
        } catch (InvocationTargetException e) {
            Due.due(told(args) + " threw " + e.getCause(), 1, 0);
        }
    }

    private static String told(Object[] args) {
        return now.getName() + List.of(args);
    }

    /** What can be asked for, but for status(). */
    private static List<Integer> seen(HeapEnds x) {
        List<Integer> seen = new ArrayList<>();
        for (int what = 0; what <= 6; what++) {
            seen.add(x.count(what));
        }
        for (int ware = 0; ware < x.count(2); ware++) {
            for (int what = 0; what < 6; what++) {
                seen.add(x.ware(ware, what));
            }
            seen.add(x.kind(ware));
        }
        for (int buyer = 0; buyer < x.count(1); buyer++) {
            for (int what = 0; what < 4; what++) {
                seen.add(x.buyer(buyer, what));
            }
        }
        for (int i = 0; i < 16; i++) {
            seen.add(x.trace(i));
        }
        seen.add(x.fault());
        return seen;
    }
}
