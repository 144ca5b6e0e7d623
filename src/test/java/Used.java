import java.lang.reflect.InvocationTargetException;
import java.lang.reflect.Method;
import java.util.HashMap;
import java.util.Map;

/** One object whose calls are told as texts ("cook 3 0"), and counted: the document promises 512 of them. */
final class Used {
    static final int PROMISED = 512;
    /** The shelf that state() writes on; a test that compares states leaves it empty. */
    private static final int SPARE = 7;
    private static final Map<String, Method> FACE = new HashMap<>();

    static {
        for (Method m : ThirdOfTheLast.class.getDeclaredMethods()) {
            FACE.put(m.getName(), m);
        }
    }

    private final ThirdOfTheLast x = new ThirdOfTheLast();
    private int calls;

    /** The answer; Model.ARGUMENT and Model.STATE for the two exceptions of element. */
    long call(String told) {
        String[] words = told.split(" ");
        Integer[] numbers = new Integer[words.length - 1];
        for (int i = 0; i < numbers.length; i++) {
            numbers[i] = Integer.valueOf(words[i + 1]);
        }
        if (++calls > PROMISED) {
            throw new AssertionError("more calls than are promised: " + told);
        }
        try {
            return ((Number) FACE.get(words[0]).invoke(x, (Object[]) numbers)).longValue();
        } catch (InvocationTargetException e) {
            Class<?> thrown = e.getCause().getClass();
            if (words[0].equals("element") && thrown == IllegalArgumentException.class) {
                return Model.ARGUMENT;
            }
            if (words[0].equals("element") && thrown == IllegalStateException.class) {
                return Model.STATE;
            }
            throw new AssertionError(told, e.getCause());
        } catch (IllegalAccessException e) {
            throw new AssertionError(told, e);
        }
    }

    void due(String told, long want) {
        Check.due(told, call(told), want);
    }

    void shelve(int d, int sort, int... elements) {
        due("row " + d + " " + sort + " " + elements.length, 0);
        for (int i = 0; i < elements.length; i++) {
            due("put " + d + " " + i + " " + elements[i], 0);
        }
    }

    /** Puts the signs on the shelf; a sign above 127 is a byte below 0. */
    void write(int d, String text) {
        shelve(d, 0, text.chars().toArray());
    }

    void cook(int pot, int times, int kind, int figure) {
        due("keep 6 1 " + kind + " " + figure, 0);
        for (int i = 0; i < times; i++) {
            Check.isTrue("is cooked in " + pot, call("cook 6 " + pot) > 0);
        }
        due("keep 6 0 0 0", 0);
    }

    /** Pots as many as that, each with the dishes told: digits by twos, kind and figure. */
    static Used withPots(String... dishes) {
        Used x = new Used();
        for (int pot = 0; pot < dishes.length; pot++) {
            x.due("pot", pot);
            for (int i = 0; i < dishes[pot].length(); i += 2) {
                x.cook(pot, 1, dishes[pot].charAt(i) - '0', dishes[pot].charAt(i + 1) - '0');
            }
        }
        return x;
    }

    /** All that can be seen of the object, with its image; it is of no more use behind this. */
    String state() {
        StringBuilder seen = new StringBuilder();
        seePots(seen);
        for (int d = 0; d <= SPARE; d++) {
            see(seen, "price " + d);
            for (int i = 0; call("price " + d) == -12 && call("element " + d + " " + i) != Model.STATE; i++) {
                see(seen, "element " + d + " " + i);
            }
        }
        for (int sort = 0; sort < 3; sort++) {
            call("row " + SPARE + " " + sort + " 0");
            for (int d = 0; d < SPARE; d++) {
                see(seen, "copy " + d + " 0 " + SPARE + " 0 0");
            }
        }
        see(seen, "restore");
        seePots(seen);
        seeDishes(seen);
        return seen.toString();
    }

    private void see(StringBuilder seen, String told) {
        seen.append(told).append(": ").append(call(told)).append('\n');
    }

    private void seePots(StringBuilder seen) {
        for (int what = 0; what < 4; what++) {
            see(seen, "count " + what);
        }
        long pots = call("count 0");
        for (int pot = 0; pot < pots; pot++) {
            see(seen, "dishes " + pot);
            for (int t = 0; t < 4; t++) {
                see(seen, "taste " + pot + " " + t + " 0");
                see(seen, "taste " + pot + " " + t + " 1");
            }
            long dishes = call("dishes " + pot);
            for (int i = 0; i < dishes; i++) {
                see(seen, "dish " + pot + " " + i + " 0");
                see(seen, "dish " + pot + " " + i + " 1");
            }
        }
    }

    /** The dishes on the shelves, each cooked in a pot that is made new for it. */
    private void seeDishes(StringBuilder seen) {
        call("pot");
        write(SPARE, "n0;");
        for (int d = 0; d < SPARE; d++) {
            if (call("price " + d) > 0) {
                call("kitchen " + SPARE);
                see(seen, "cook " + d + " 0");
                see(seen, "dish 0 0 0");
                see(seen, "dish 0 0 1");
            }
        }
    }
}
