import java.util.function.LongSupplier;

/** What every test uses: answers that are due, rows on shelves, and the end with code 1. */
final class Check {
    private static int asked = 0;
    private static int wrong = 0;

    private Check() {
    }

    static void due(String call, long got, long want) {
        asked++;
        if (got != want) {
            wrong++;
            System.out.println(call + " answered " + got + ", due is " + want);
        }
    }

    static void isTrue(String what, boolean holds) {
        asked++;
        if (!holds) {
            wrong++;
            System.out.println("does not hold: " + what);
        }
    }

    static void dueThrow(String call, LongSupplier made, Class<? extends RuntimeException> want) {
        asked++;
        try {
            long got = made.getAsLong();
            wrong++;
            System.out.println(call + " answered " + got + ", due is " + want.getSimpleName());
        } catch (RuntimeException e) {
            if (e.getClass() != want) {
                wrong++;
                System.out.println(call + " threw " + e.getClass().getSimpleName() + ", due is " + want.getSimpleName());
            }
        }
    }

    /** Puts a row of the sort, with these elements, on the shelf. */
    static void shelve(ThirdOfTheLast x, int d, int sort, int... elements) {
        due("row", x.row(d, sort, elements.length), 0);
        for (int i = 0; i < elements.length; i++) {
            due("put", x.put(d, i, elements[i]), 0);
        }
    }

    /** What kitchen answers to the text; shelf 7 holds it then. */
    static int read(ThirdOfTheLast x, String text) {
        int[] signs = new int[text.length()];
        for (int i = 0; i < signs.length; i++) {
            signs[i] = text.charAt(i);
        }
        shelve(x, 7, 0, signs);
        return x.kitchen(7);
    }

    static ThirdOfTheLast after(String text) {
        ThirdOfTheLast x = new ThirdOfTheLast();
        isTrue("reads " + text, read(x, text) > 0);
        return x;
    }

    static void end(String test) {
        System.out.println(test + ": " + asked + " asked, " + wrong + " wrong");
        if (wrong != 0) {
            System.exit(1);
        }
    }
}
