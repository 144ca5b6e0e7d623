/** Promises 27 to 33: keep, row, put, element, copy, price, toss. */
final class ShelvesTest {
    public static void main(String[] args) {
        keeps();
        rows();
        puts();
        elements();
        copies();
        copyRefuses();
        pricesAndFailures();
        Check.end("ShelvesTest");
    }

    private static void keeps() {
        ThirdOfTheLast x = new ThirdOfTheLast();
        for (int d = 0; d < 8; d++) {
            Check.due("a dish", x.keep(d, 1, d, d), 0);
        }
        x.pot();
        for (int d = 0; d < 8; d++) {
            x.cook(d, 0);
            Check.due("kind", x.dish(0, 0, 0), d);
            Check.due("figure", x.dish(0, 0, 1), d);
        }
        Check.due("kind", x.keep(1, 1, 8, 0), -1);
        Check.due("kind", x.keep(1, 1, -1, 0), -1);
        Check.due("figure", x.keep(1, 1, 0, 10), -1);
        Check.due("figure", x.keep(1, 1, 0, -1), -1);
        Check.due("what", x.keep(1, 2, 0, 0), -1);
        Check.due("what", x.keep(1, -1, 0, 0), -1);
        Check.due("shelf", x.keep(8, 1, 0, 0), -1);
        Check.due("shelf", x.keep(-1, 0, 0, 0), -1);
        Check.due("refused, so it stays", x.price(1), 4);
        Check.due("nothing, whatever the others", x.keep(1, 0, -5, 99), 0);
        Check.due("nothing", x.price(1), -11);
        x.row(1, 0, 3);
        Check.due("nothing in place of a row", x.keep(1, 0, 0, 0), 0);
        Check.due("nothing", x.put(1, 0, 0), -11);
        x.row(1, 0, 3);
        Check.due("a dish in place of a row", x.keep(1, 1, 7, 9), 0);
        Check.due("price", x.price(1), 11);
    }

    private static void rows() {
        ThirdOfTheLast x = new ThirdOfTheLast();
        for (int sort = 0; sort < 3; sort++) {
            Check.due("a hundred", x.row(0, sort, 100), 0);
            Check.due("0 at first", x.element(0, 99), 0);
            Check.due("put", x.put(0, 99, 5), 0);
            Check.due("put", x.put(0, 0, 5), 0);
            Check.due("anew", x.row(0, sort, 100), 0);
            Check.due("0 at first", x.element(0, 0), 0);
            Check.due("0 at first", x.element(0, 99), 0);
            Check.due("put", x.put(0, 99, 5), 0);
        }
        Check.due("above", x.row(0, 0, 101), -1);
        Check.due("above", x.row(0, 0, 2147483647), -1);
        Check.due("below", x.row(0, 0, -1), -14);
        Check.due("below", x.row(0, 0, -2147483648), -14);
        Check.due("sort", x.row(0, 3, 1), -1);
        Check.due("sort", x.row(0, -1, 1), -1);
        Check.due("sort goes ahead", x.row(0, 3, -1), -1);
        Check.due("shelf", x.row(8, 0, 1), -1);
        Check.due("shelf", x.row(-1, 0, -1), -1);
        Check.due("refused, so it stays", x.element(0, 99), 5);
        Check.due("empty", x.row(0, 0, 0), 0);
        Check.due("no place", x.put(0, 0, 0), -13);
        x.keep(0, 1, 0, 0);
        Check.due("a row in place of a dish", x.row(0, 0, 1), 0);
        Check.due("a row", x.price(0), -12);
    }

    private static void puts() {
        ThirdOfTheLast x = new ThirdOfTheLast();
        int[] values = {0, 1, -1, 127, 128, -128, -129, 255, 256, 32767, 32768, -32768, -32769, 65535, 65536,
            2147483647, -2147483648};
        for (int v : values) {
            x.row(0, 0, 1);
            Check.due("put", x.put(0, 0, v), 0);
            Check.due("a byte", x.element(0, 0), (byte) v);
            x.row(0, 1, 1);
            Check.due("put", x.put(0, 0, v), 0);
            Check.due("a short", x.element(0, 0), (short) v);
            x.row(0, 2, 1);
            Check.due("put", x.put(0, 0, v), 0);
            Check.due("an int", x.element(0, 0), v);
        }
        Check.due("shelf", x.put(-1, 0, 0), -1);
        Check.due("shelf", x.put(8, 0, 0), -1);
        Check.due("nothing", x.put(1, 0, 0), -11);
        x.keep(1, 1, 0, 0);
        Check.due("a dish", x.put(1, 0, 0), -12);
        Check.due("place", x.put(0, 1, 0), -13);
        Check.due("place", x.put(0, -1, 0), -13);
        Check.due("place", x.put(0, 2147483647, 0), -13);
    }

    private static void elements() {
        ThirdOfTheLast x = new ThirdOfTheLast();
        Check.shelve(x, 0, 2, 7, 8, 9);
        Check.due("element", x.element(0, 0), 7);
        Check.due("element", x.element(0, 2), 9);
        x.keep(2, 1, 0, 0);
        Check.dueThrow("no such shelf", () -> x.element(-1, 0), IllegalArgumentException.class);
        Check.dueThrow("no such shelf", () -> x.element(8, -1), IllegalArgumentException.class);
        Check.dueThrow("nothing", () -> x.element(1, 0), IllegalStateException.class);
        Check.dueThrow("a dish", () -> x.element(2, 0), IllegalStateException.class);
        Check.dueThrow("no such place", () -> x.element(0, 3), IllegalStateException.class);
        Check.dueThrow("no such place", () -> x.element(0, -1), IllegalStateException.class);
        Check.dueThrow("no such place", () -> x.element(0, -2147483648), IllegalStateException.class);
    }

    private static void copies() {
        ThirdOfTheLast x = new ThirdOfTheLast();
        Check.shelve(x, 0, 2, 1, 2, 3, 4, 5);
        Check.shelve(x, 1, 2, 0, 0, 0);
        Check.due("copy", x.copy(0, 2, 1, 1, 2), 2);
        dueRow(x, 1, 0, 3, 4);
        dueRow(x, 0, 1, 2, 3, 4, 5);
        Check.due("on", x.copy(0, 0, 0, 1, 4), 4);
        dueRow(x, 0, 1, 1, 2, 3, 4);
        Check.due("back", x.copy(0, 1, 0, 0, 4), 4);
        dueRow(x, 0, 1, 2, 3, 4, 4);
        Check.due("none", x.copy(0, 5, 1, 3, 0), 0);
        Check.due("all", x.copy(1, 0, 0, 0, 3), 3);
        dueRow(x, 0, 0, 3, 4, 4, 4);
    }

    private static void dueRow(ThirdOfTheLast x, int d, int... want) {
        for (int i = 0; i < want.length; i++) {
            Check.due("element " + i + " of " + d, x.element(d, i), want[i]);
        }
    }

    private static void copyRefuses() {
        ThirdOfTheLast x = new ThirdOfTheLast();
        x.row(0, 0, 3);
        x.row(1, 0, 2);
        x.row(2, 1, 3);
        x.keep(3, 1, 0, 0);
        Check.due("shelf", x.copy(-1, 0, 0, 0, 0), -1);
        Check.due("shelf", x.copy(0, 0, 8, 0, 0), -1);
        Check.due("shelf goes ahead", x.copy(4, 0, 8, 0, 0), -1);
        Check.due("nothing", x.copy(0, 0, 4, 0, 0), -11);
        Check.due("nothing", x.copy(4, 0, 0, 0, 0), -11);
        Check.due("nothing goes ahead", x.copy(3, 0, 4, 0, 0), -11);
        Check.due("a dish", x.copy(3, 0, 0, 0, 0), -12);
        Check.due("a dish", x.copy(0, 0, 3, 0, 0), -12);
        Check.due("two dishes", x.copy(3, 0, 3, 0, 0), -12);
        Check.due("another sort", x.copy(0, 0, 2, 0, 0), -12);
        Check.due("another sort goes ahead", x.copy(0, 9, 2, 0, 0), -12);
        int[][] bad = {{-1, 0, 1}, {0, -1, 1}, {4, 0, 0}, {0, 3, 0}, {0, 0, 3}, {1, 0, 3}, {2, 1, 2}, {0, 0, -1},
            {2147483647, 0, 2}, {1, 1, 2147483647}, {1, 0, -2147483648}, {-2147483648, 0, -2147483648}};
        for (int[] a : bad) {
            Check.due("no such place", x.copy(0, a[0], 1, a[1], a[2]), -13);
        }
        Check.due("all there is", x.copy(0, 1, 1, 0, 2), 2);
    }

    private static void pricesAndFailures() {
        ThirdOfTheLast x = new ThirdOfTheLast();
        for (int f = 0; f < 10; f++) {
            int[] price = {3, 3 + f, 6, 7, 1, 5 + f, 7 * (f + 1), 2 + f};
            int[] failure = {f, f, f, f, -15, 100 + f, 200 + 7 * (f + 1), f};
            for (int kind = 0; kind < 8; kind++) {
                x.keep(0, 1, kind, f);
                Check.due("price", x.price(0), price[kind]);
                Check.due("failure", x.toss(0), f == 0 ? -15 : failure[kind]);
            }
        }
        Check.due("shelf", x.price(-1), -1);
        Check.due("shelf", x.price(8), -1);
        Check.due("nothing", x.price(1), -11);
        Check.due("shelf", x.toss(-1), -1);
        Check.due("shelf", x.toss(8), -1);
        Check.due("nothing", x.toss(1), -11);
        x.row(1, 0, 1);
        Check.due("a row", x.price(1), -12);
        Check.due("a row", x.toss(1), -12);
    }
}
