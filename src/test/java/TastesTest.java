/** Promises 7 to 14: taste, all, portion, over, part, back, strongest, harms. */
final class TastesTest {
    private static final long REFUSED = -1000000001L;

    public static void main(String[] args) {
        ownOfKinds();
        keepsOfKinds();
        tasteAndAll();
        portionAndOver();
        parts();
        backs();
        strongests();
        harm();
        refusals();
        Check.end("TastesTest");
    }

    private static void ownOfKinds() {
        // Figure 9 gives the plain dish 10 of taste 1.
        int[][] own = {
            {0, 10, 0, 0}, {1, 11, 1, 1}, {0, 20, 0, 0}, {0, 10, 3, 0},
            {0, 0, 0, 0}, {1, 11, 1, 3}, {5, 10, 3, 0}, {0, 10, 0, 0}};
        for (int kind = 0; kind < 8; kind++) {
            ThirdOfTheLast x = Check.after("p;d0" + kind + "9;");
            for (int t = 0; t < 4; t++) {
                Check.due("own " + kind + " " + t, x.taste(0, t, 0), own[kind][t]);
                Check.due("below " + kind + " " + t, x.taste(0, t, 1), 1);
            }
        }
        for (int figure = 0; figure < 10; figure++) {
            ThirdOfTheLast x = Check.after("p;d00" + figure + ";");
            Check.due("own of figure " + figure, x.taste(0, figure % 4, 0), figure + 1);
            Check.due("all of figure " + figure, x.all(0, 0), figure + 1);
        }
    }

    private static void keepsOfKinds() {
        // In ninths, in least terms, above and below the line.
        long[][] keeps = {{1, 3}, {1, 3}, {2, 3}, {2, 9}, {0, 1}, {4, 9}, {2, 9}, {2, 3}};
        for (int kind = 0; kind < 8; kind++) {
            ThirdOfTheLast x = Check.after("p;d000;d0" + kind + "1;");
            Check.due("part " + kind, x.part(0, 1, 0), keeps[kind][0]);
            Check.due("part " + kind, x.part(0, 1, 1), keeps[kind][1]);
        }
    }

    private static void tasteAndAll() {
        ThirdOfTheLast x = Check.after("p;p;d019;d036;d000;");
        // (1, 11, 1, 1), then of 3 / 9: 2 / 9 of it and (0, 0, 7 + 3, 0), then a third and (1, 0, 0, 0).
        long[][] want = {{29, 27}, {22, 27}, {92, 27}, {2, 27}};
        for (int t = 0; t < 4; t++) {
            Check.due("taste " + t, x.taste(0, t, 0), want[t][0]);
            Check.due("taste " + t, x.taste(0, t, 1), want[t][1]);
        }
        Check.due("all", x.all(0, 0), 145);
        Check.due("all", x.all(0, 1), 27);
        Check.due("nothing", x.taste(1, 0, 0), 0);
        Check.due("nothing", x.taste(1, 0, 1), 1);
        Check.due("all of nothing", x.all(1, 0), 0);
        Check.due("all of nothing", x.all(1, 1), 1);
        x = Check.after("p;d009;d049;");
        Check.due("scoured", x.all(0, 0), 0);
        Check.due("scoured", x.all(0, 1), 1);
        x = Check.after("p;" + "d009;".repeat(11) + "d049;");
        Check.due("twelve dishes, scoured", x.all(0, 0), 0);
        Check.due("twelve dishes, scoured", x.all(0, 1), 1);
        x = Check.after("p;" + "d009;".repeat(10) + "d049;d009;");
        Check.due("twelve dishes, scoured ahead", x.taste(0, 1, 0), 10);
        Check.due("twelve dishes, scoured ahead", x.taste(0, 1, 1), 1);
        x = Check.after("p;d009;d009;d009;");
        Check.due("130 / 9", x.all(0, 0), 130);
        Check.due("130 / 9", x.all(0, 1), 9);
    }

    private static void portionAndOver() {
        ThirdOfTheLast x = Check.after("p;p;d019;d036;d000;");
        int[] want = {20, 15, 63, 1};
        for (int t = 0; t < 4; t++) {
            Check.due("portion " + t, x.portion(0, t), want[t]);
            Check.due("portion of nothing", x.portion(1, t), 0);
            Check.due("over of nothing", x.over(1, t, 0), 0);
        }
        // 29 of 145 is 20 hundredths sharp: not more than they are.
        Check.due("over 19", x.over(0, 0, 19), 1);
        Check.due("over 20", x.over(0, 0, 20), 0);
        // 22 of 145 is more than 15 hundredths, by a part of one.
        Check.due("over 15", x.over(0, 1, 15), 1);
        Check.due("over 16", x.over(0, 1, 16), 0);
        Check.due("over 0", x.over(0, 3, 0), 1);
        x = Check.after("p;d009;");
        Check.due("a hundred", x.portion(0, 1), 100);
        Check.due("over 99", x.over(0, 1, 99), 1);
        Check.due("over 100", x.over(0, 1, 100), 0);
        Check.due("over 0 of 0", x.over(0, 0, 0), 0);
    }

    private static void parts() {
        ThirdOfTheLast x = Check.after("p;p;d000;d050;d030;d020;");
        long[][] want = {{1, 1}, {2, 3}, {4, 27}, {16, 243}};
        for (int i = 0; i < 4; i++) {
            Check.due("part " + i, x.part(0, i, 0), want[i][0]);
            Check.due("part " + i, x.part(0, i, 1), want[i][1]);
        }
        Check.due("none such", x.part(0, 4, 0), REFUSED);
        Check.due("none such", x.part(0, -1, 0), REFUSED);
        Check.due("none such", x.part(1, 0, 0), REFUSED);
        x = Check.after("p;d000;d040;d000;");
        Check.due("scoured", x.part(0, 2, 0), 0);
        Check.due("scoured", x.part(0, 2, 1), 1);
        Check.due("of the scouring", x.part(0, 1, 0), 1);
        Check.due("of the scouring", x.part(0, 1, 1), 3);
    }

    private static void backs() {
        ThirdOfTheLast x = Check.after("p;p;d000;d050;d030;d020;");
        Check.due("back", x.back(0, 100), 1);
        Check.due("back", x.back(0, 67), 1);
        Check.due("back", x.back(0, 66), 2);
        Check.due("back", x.back(0, 15), 2);
        Check.due("back", x.back(0, 14), 3);
        Check.due("back", x.back(0, 7), 3);
        Check.due("back", x.back(0, 6), 4);
        Check.due("back", x.back(0, 1), 4);
        Check.due("back", x.back(1, 1), 0);
        x = Check.after("p;d000;d040;d000;");
        Check.due("up to the scouring", x.back(0, 1), 2);
        x = Check.after("p;d000;d040;");
        Check.due("up to the scouring", x.back(0, 1), 1);
    }

    private static void strongests() {
        ThirdOfTheLast x = Check.after("p;p;p;d019;d117;d101;");
        Check.due("strongest", x.strongest(0), 1);
        Check.due("strongest", x.strongest(1), 3);
        Check.due("of nothing", x.strongest(2), -4);
        x = Check.after("p;d009;d049;");
        Check.due("of nothing", x.strongest(0), -4);
        // A broth of figure 0 has 2, 1, 1, 3; of figure 1 it has 1, 3, 1, 3.
        x = Check.after("p;p;d050;d151;");
        Check.due("the greatest", x.strongest(0), 3);
        Check.due("of several the least", x.strongest(1), 1);
        // A third of 4 of taste 3 and 1 of taste 0; a third of 3 of taste 2 and 1 of taste 0.
        x = Check.after("p;p;d003;d000;d102;d100;");
        Check.due("the greatest", x.strongest(0), 3);
        Check.due("of several the least", x.strongest(1), 0);
    }

    private static void harm() {
        ThirdOfTheLast x = Check.after("p;p;d019;d036;d000;");
        // Tastes are 29, 22, 92, 2 of 145.
        Check.due("harms", x.harms(0, 4, 63), 1);
        Check.due("harms", x.harms(0, 4, 64), 0);
        Check.due("harms", x.harms(0, 1, 19), 1);
        Check.due("harms", x.harms(0, 1, 20), 0);
        Check.due("harms", x.harms(0, 11, 20), 0);
        Check.due("harms", x.harms(0, 15, 20), 1);
        Check.due("harms", x.harms(0, 8, 1), 1);
        Check.due("harms", x.harms(0, 8, 2), 0);
        Check.due("harms", x.harms(0, 2, 15), 1);
        Check.due("no bans", x.harms(0, 0, 0), 0);
        Check.due("nothing in it", x.harms(1, 15, 0), 0);
    }

    private static void refusals() {
        ThirdOfTheLast x = Check.after("p;d019;");
        for (int bad : new int[] {-1, 1, 6, 2147483647, -2147483648}) {
            Check.due("taste", x.taste(bad, 0, 0), REFUSED);
            Check.due("all", x.all(bad, 0), REFUSED);
            Check.due("portion", x.portion(bad, 0), -1);
            Check.due("over", x.over(bad, 0, 0), -1);
            Check.due("part", x.part(bad, 0, 0), REFUSED);
            Check.due("back", x.back(bad, 1), -1);
            Check.due("strongest", x.strongest(bad), -1);
            Check.due("harms", x.harms(bad, 0, 0), -1);
        }
        for (int bad : new int[] {-1, 4, 2147483647, -2147483648}) {
            Check.due("taste", x.taste(0, bad, 0), REFUSED);
            Check.due("portion", x.portion(0, bad), -1);
            Check.due("over", x.over(0, bad, 0), -1);
        }
        for (int bad : new int[] {-1, 2}) {
            Check.due("taste", x.taste(0, 0, bad), REFUSED);
            Check.due("all", x.all(0, bad), REFUSED);
            Check.due("part", x.part(0, 0, bad), REFUSED);
        }
        for (int bad : new int[] {-1, 101, 2147483647, -2147483648}) {
            Check.due("over", x.over(0, 0, bad), -1);
            Check.due("harms", x.harms(0, 0, bad), -1);
            Check.due("back", x.back(0, bad), -1);
        }
        Check.due("back 0", x.back(0, 0), -1);
        Check.due("bans", x.harms(0, -1, 0), -1);
        Check.due("bans", x.harms(0, 16, 0), -1);
    }
}
