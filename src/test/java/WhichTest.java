/** Promises 18 to 23: mayHave, tells, lent, gone, seeded, judge. */
final class WhichTest {
    private static final int FAR = -1000000000;

    public static void main(String[] args) {
        mayHaves();
        tellsApart();
        lents();
        goneAfter();
        seeds();
        judges();
        Check.end("WhichTest");
    }

    private static void mayHaves() {
        ThirdOfTheLast x = Check.after("p;p;d013;d165;d145;");
        Check.due("a soup", x.mayHave(0, 1, 3, 0), 1);
        Check.due("a soup", x.mayHave(0, 1, 3, 1), 1);
        Check.due("scoured ahead", x.mayHave(0, 2, 3, 0), 1);
        Check.due("scoured ahead", x.mayHave(0, 2, 3, 1), 41);
        // Whatever is first, a scouring is the second and a soup the third.
        Check.due("scoured ahead", x.mayHave(0, 3, 3, 0), 8);
        Check.due("scoured ahead", x.mayHave(0, 3, 3, 1), 41);
        Check.due("another figure", x.mayHave(0, 3, 7, 0), 0);
        Check.due("another figure", x.mayHave(0, 3, 7, 1), -4);
        Check.due("no tastes", x.mayHave(1, 3, 5, 0), 64);
        Check.due("no tastes", x.mayHave(1, 3, 5, 1), 4);
        x = Check.after("p;d001;");
        Check.due("a dish or a bland one", x.mayHave(0, 1, 1, 0), 2);
        Check.due("a dish or a bland one", x.mayHave(0, 1, 1, 1), 0);
        x = Check.after("p;d063;d020;");
        Check.due("a poison of 3, a stew of 0", x.mayHave(0, 2, 3, 1), -4);
        x = Check.after("p;d063;d053;");
        Check.due("a poison, a broth", x.mayHave(0, 2, 3, 0), 1);
        Check.due("a poison, a broth", x.mayHave(0, 2, 3, 1), 65);
        Check.due("nothing stays", x.count(0) + x.count(1), 3);
        int[][] bad = {{-1, 1, 0, 0}, {1, 1, 0, 0}, {0, 0, 0, 0}, {0, 4, 0, 0},
            {0, 1, -1, 0}, {0, 1, 10, 0}, {0, 1, 0, -1}, {0, 1, 0, 2}};
        for (int[] a : bad) {
            Check.due("refused", x.mayHave(a[0], a[1], a[2], a[3]), -1);
        }
    }

    private static void tellsApart() {
        ThirdOfTheLast x = new ThirdOfTheLast();
        Check.due("no pots", x.tells(0), -4);
        Check.due("no pots", x.tells(1), -4);
        Check.due("what", x.tells(-1), -1);
        Check.due("what", x.tells(2), -1);
        x.pot();
        Check.due("one pot", x.tells(0), 0);
        Check.due("one pot", x.tells(1), 1);
        x = Check.after("p;p;p;d001;d102;");
        // Portions 0 100 0 0, 0 0 100 0, 0 0 0 0.
        Check.due("of several the least", x.tells(0), 1);
        Check.due("of several the least", x.tells(1), 2);
        x = Check.after("p;p;p;p;p;p;d003;c01;c02;d309;d408;");
        // Portions of taste 3: 100 of three pots, then 0 of three; of the others 0 of five or six.
        Check.due("six pots", x.tells(0), 3);
        Check.due("six pots", x.tells(1), 3);
        x = Check.after("p;p;p;d003;d153;");
        // Taste 3: 100, 6 of 9, 0.
        Check.due("the last taste", x.tells(0), 3);
        Check.due("the last taste", x.tells(1), 1);
    }

    private static void lents() {
        ThirdOfTheLast x = Check.after("p;p;d009;");
        x.keep(0, 1, 0, 0);
        // In the pot it is 1 of 13 thirds, in a new one all.
        Check.due("lent", x.lent(0, 0), 23 - 100);
        Check.due("a new pot", x.lent(0, 1), 0);
        x.keep(0, 1, 1, 1);
        // In the pot 3 and 10 thirds of 6 and 10 thirds, 67 hundredths; in a new one 3 of 6.
        Check.due("lent", x.lent(0, 0), 17);
        x.keep(0, 1, 4, 1);
        Check.due("a scouring", x.lent(0, 0), 0);
        x.keep(0, 1, 6, 5);
        Check.due("a poison", x.lent(0, 0), (100 * 74 / (74 + 45 + 27)) - 100 * 6 / 14);
        Check.due("nothing stays", x.count(1), 1);
        x = Check.after("p;" + "d009;".repeat(12));
        x.keep(0, 1, 0, 0);
        Check.due("no room, but in mind", x.lent(0, 0), 16 - 100);
        Check.due("dishes", x.dishes(0), 12);
        Check.due("pot", x.lent(0, 1), FAR - 1);
        Check.due("pot", x.lent(0, -1), FAR - 1);
        Check.due("shelf", x.lent(-1, 0), FAR - 1);
        Check.due("shelf", x.lent(8, 0), FAR - 1);
        Check.due("nothing", x.lent(1, 0), FAR - 11);
        Check.due("no pot goes ahead", x.lent(1, 1), FAR - 1);
        x.row(1, 0, 0);
        Check.due("a row", x.lent(1, 0), FAR - 12);
    }

    private static void goneAfter() {
        ThirdOfTheLast x = new ThirdOfTheLast();
        int[] atOne = {5, 5, 12, 4, 1, 6, 4, 12};
        for (int kind = 0; kind < 8; kind++) {
            Check.due("gone " + kind, x.gone(kind, 0, 1), atOne[kind]);
            Check.due("of every figure " + kind, x.gone(kind, 9, 1), atOne[kind]);
            Check.due("at once " + kind, x.gone(kind, 0, 100), 1);
        }
        Check.due("66 are more than 2 thirds are less", x.gone(2, 0, 66), 2);
        Check.due("67", x.gone(2, 0, 67), 1);
        Check.due("34", x.gone(0, 0, 34), 1);
        Check.due("33", x.gone(0, 0, 33), 2);
        int[][] bad = {{-1, 0, 1}, {8, 0, 1}, {0, -1, 1}, {0, 10, 1}, {0, 0, 0}, {0, 0, 101}};
        for (int[] a : bad) {
            Check.due("refused", x.gone(a[0], a[1], a[2]), -1);
        }
    }

    private static void seeds() {
        ThirdOfTheLast x = new ThirdOfTheLast();
        // Seed 0: z is 12345, then -740551042: draws 0 and 21468, a dish of figure 8.
        Check.due("a dish of figure 8", x.seeded(1, 0, 0), 100);
        for (int n = 1; n <= 12; n++) {
            for (int seed : new int[] {0, 1, -1, 77, 2147483647, -2147483648, 987654321}) {
                Model model = new Model();
                for (int t = 0; t < 4; t++) {
                    Check.due("seeded", x.seeded(n, seed, t), model.seeded(n, seed, t));
                }
            }
        }
        Check.due("n", x.seeded(0, 0, 0), -1);
        Check.due("n", x.seeded(13, 0, 0), -1);
        Check.due("taste", x.seeded(1, 0, -1), -1);
        Check.due("taste", x.seeded(1, 0, 4), -1);
        Check.due("nothing stays", x.count(0), 0);
    }

    private static void judges() {
        ThirdOfTheLast x = new ThirdOfTheLast();
        Check.due("shelf", x.judge(-1), -1);
        Check.due("shelf", x.judge(8), -1);
        Check.due("nothing", x.judge(0), -11);
        x.keep(0, 1, 0, 0);
        Check.due("a dish", x.judge(0), -12);
        for (int sort = 0; sort < 3; sort++) {
            x = new ThirdOfTheLast();
            Check.shelve(x, 0, sort);
            Check.due("no pots, no elements", x.judge(0), -4);
            Check.shelve(x, 0, sort, 5);
            Check.due("long", x.judge(0), 0);
            Check.read(x, "p;p;d050;d103;");
            // Of a broth 2, 1, 1, 3 of 7.
            int skip = new int[] {-128, -32768, -2147483648}[sort];
            Check.shelve(x, 0, sort, 28, 14, 14, 42, 0, 0, 0, 100);
            Check.due("all is so", x.judge(0), -4);
            Check.shelve(x, 0, sort, skip, skip, 14, 42, 0, skip, 0, 100);
            Check.due("skipped", x.judge(0), -4);
            Check.shelve(x, 0, sort, 29, 14, 14, 42, 0, 0, 0, 99);
            Check.due("the first one", x.judge(0), 0);
            Check.shelve(x, 0, sort, 28, 14, 14, 42, 0, 0, 0, 99);
            Check.due("the last one", x.judge(0), 7);
            Check.shelve(x, 0, sort, 28, 14, skip + 1, 42, 0, 0, 0, 99);
            Check.due("not the least number", x.judge(0), 2);
            Check.shelve(x, 0, sort, 28, 14, 14, 42, 0, 0, 0);
            Check.due("short", x.judge(0), 7);
            Check.shelve(x, 0, sort, 28, 14, 14, 42, 0, 0, 0, 100, skip);
            Check.due("long", x.judge(0), 8);
            Check.shelve(x, 0, sort, 28, 14, 14, 42, 1, 0, 0, 100, skip);
            Check.due("what isn't so goes ahead", x.judge(0), 4);
            x = Check.after("p;p;p;p;p;p;");
            Check.shelve(x, 0, sort, new int[24]);
            Check.due("six pots", x.judge(0), -4);
            Check.shelve(x, 0, sort, new int[25]);
            Check.due("six pots", x.judge(0), 24);
        }
    }
}
