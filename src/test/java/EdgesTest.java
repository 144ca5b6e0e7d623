/**
 * The edges that the document names, promise by promise, beyond those of RangesTest, RefusalsTest and TextsTest:
 * nothing held, full, the least and the greatest, ties, what is cut, what wraps around. Answers were reckoned apart
 * from the class, by whole fractions.
 */
final class EdgesTest {
    private static final long FAR = -1000000000L;
    private static final String FULL = "292929292929292929292929";
    /** Of each kind: up to so many hundredths (and above those told ahead) it takes so many dishes until less is left. */
    private static final int[][] LEFT = {
        {1, 5, 3, 4, 11, 3, 33, 2, 100, 1}, {1, 5, 3, 4, 11, 3, 33, 2, 100, 1},
        {1, 12, 2, 10, 3, 9, 5, 8, 8, 7, 13, 6, 19, 5, 29, 4, 44, 3, 66, 2, 100, 1}, {1, 4, 4, 3, 22, 2, 100, 1},
        {100, 1}, {1, 6, 3, 5, 8, 4, 19, 3, 44, 2, 100, 1}, {1, 4, 4, 3, 22, 2, 100, 1},
        {1, 12, 2, 10, 3, 9, 5, 8, 8, 7, 13, 6, 19, 5, 29, 4, 44, 3, 66, 2, 100, 1}};

    public static void main(String[] args) {
        promise1();
        promises3And4();
        promises5And6();
        promises7And8();
        promise9();
        promise10();
        promise11();
        promise12();
        promise13();
        promise14();
        promise15();
        promise16();
        promise17();
        promise18();
        promise19();
        promise20();
        promise21();
        promise22();
        promise23();
        promises24And25();
        promise26();
        promise27();
        promises28To30();
        promise31();
        promises32And33();
        lastCall();
        Check.end("EdgesTest");
    }

    /** No pots, nothing on shelves, no image; and what another object had is not in this one. */
    private static void promise1() {
        String untouched = new Used().state();
        Used other = Begun.object();
        Used x = new Used();
        for (int what = 0; what < 4; what++) {
            x.due("count " + what, 0);
        }
        for (int d = 0; d < 8; d++) {
            x.due("price " + d, -11);
            x.due("element " + d + " 0", Model.STATE);
        }
        x.due("dishes 0", -1);
        x.due("restore", -3);
        Check.isTrue("as any new object", new Used().state().equals(untouched));
        other.due("count 0", 3);
    }

    private static void promises3And4() {
        Used x = new Used();
        for (int pot = 0; pot < 6; pot++) {
            x.due("pot", pot);
            x.due("count 0", pot + 1);
        }
        x.due("pot", -2);
        x.due("count 0", 6);
        x.write(0, "n5;");
        x.due("kitchen 0", 1);
        x.due("pot", -2);
        for (int kind = 0; kind < 8; kind++) {
            for (int figure = 0; figure < 10; figure++) {
                x = figure == 0 ? Used.withPots("") : x;
                x.due("keep 0 1 " + kind + " " + figure, 0);
                x.due("cook 0 0", figure + 1);
                x.due("dish 0 0 0", kind);
                x.due("dish 0 0 1", figure);
            }
        }
        // Twelve at most in each pot; what is full is full alone.
        x = Used.withPots("", FULL);
        x.due("keep 0 1 4 0", 0);
        x.due("cook 0 1", -2);
        for (int i = 1; i <= 12; i++) {
            x.due("cook 0 0", i);
        }
        x.due("cook 0 0", -2);
        x.due("cook 0 0", -2);
        x.due("dishes 0", 12);
        x.write(1, "n1;");
        x.due("kitchen 1", 1);
        x.due("cook 0 1", 1);
    }

    private static void promises5And6() {
        Used x = Used.withPots("", "001122334455667708091029");
        for (int i = 0; i < 12; i++) {
            String dishes = "001122334455667708091029";
            x.due("dish 1 " + i + " 0", dishes.charAt(22 - 2 * i) - '0');
            x.due("dish 1 " + i + " 1", dishes.charAt(23 - 2 * i) - '0');
        }
        x.due("dish 1 12 0", -4);
        x.due("dish 1 13 1", -4);
        x.due("dish 1 100 0", -4);
        x.due("dish 0 0 0", -4);
        x.due("dish 0 11 1", -4);
        x.due("dish 1 -1 0", -1);
        x.due("dishes 0", 0);
        x.due("dishes 1", 12);
        // A scouring is a dish that was had.
        x = Used.withPots("4040");
        x.due("dishes 0", 2);
        x.due("dish 0 1 0", 4);
    }

    private static void fraction(Used x, String call, long above, long below) {
        x.due(call + " 0", above);
        x.due(call + " 1", below);
    }

    private static void promises7And8() {
        Used x = Used.withPots(FULL, "575757575757575757575757", "003232323232323232323232", "002222222222222222222222", "");
        fraction(x, "taste 0 0", 0, 1);
        fraction(x, "taste 0 1", 10546900, 177147);
        fraction(x, "all 0", 10546900, 177147);
        fraction(x, "taste 1 0", 56482551853L, 31381059609L);
        fraction(x, "taste 1 3", 621308070383L, 31381059609L);
        fraction(x, "all 1", 790755725942L, 31381059609L);
        fraction(x, "taste 2 0", 2048, 31381059609L);
        fraction(x, "taste 2 2", 8966016446L, 1162261467);
        fraction(x, "taste 2 3", 0, 1);
        fraction(x, "all 2", 242082446090L, 31381059609L);
        // ALL has other terms than the tastes.
        fraction(x, "taste 3 0", 2048, 177147);
        fraction(x, "taste 3 2", 350198, 19683);
        fraction(x, "all 3", 3153830, 177147);
        fraction(x, "taste 4 0", 0, 1);
        fraction(x, "all 4", 0, 1);
        // A third of 3, and of 9: whole again; two thirds of 2.
        x = Used.withPots("0200", "0800", "0170", "0949", "");
        fraction(x, "taste 0 2", 1, 1);
        fraction(x, "all 0", 2, 1);
        fraction(x, "taste 1 0", 4, 1);
        fraction(x, "taste 2 1", 4, 3);
        fraction(x, "all 2", 7, 3);
        fraction(x, "taste 3 1", 0, 1);
        fraction(x, "all 3", 0, 1);
    }

    private static void portions(Used x, int pot, int... want) {
        for (int t = 0; t < 4; t++) {
            x.due("portion " + pot + " " + t, want[t]);
        }
    }

    private static void promise9() {
        Used x = Used.withPots("", "0040", "09", "10", "003232323232323232323232");
        portions(x, 0, 0, 0, 0, 0);
        portions(x, 1, 0, 0, 0, 0);
        portions(x, 2, 0, 100, 0, 0);
        // 2 of 5 and 1 of 5: sharp.
        portions(x, 3, 40, 20, 20, 20);
        // All but a very little is 99, a very little 0.
        portions(x, 4, 0, 0, 99, 0);
    }

    private static void promise10() {
        // 29, 22, 92 and 2 of 145: 20 hundredths sharp, 15.1, 63.4, 1.3.
        Used x = Used.withPots("193600");
        int[] most = {19, 15, 63, 1};
        for (int t = 0; t < 4; t++) {
            for (int p = 0; p <= 100; p++) {
                x.due("over 0 " + t + " " + p, p <= most[t] ? 1 : 0);
            }
        }
        x = Used.withPots("", "0040", "09", "003232323232323232323232");
        for (int p = 0; p <= 100; p++) {
            x.due("over 0 0 " + p, 0);
            x.due("over 1 0 " + p, 0);
            x.due("over 2 1 " + p, p < 100 ? 1 : 0);
            x.due("over 3 0 " + p, p == 0 ? 1 : 0);
        }
        x.due("over 2 0 0", 0);
        x.due("over 3 2 99", 1);
        x.due("over 3 2 100", 0);
    }

    private static void promise11() {
        Used x = Used.withPots(FULL, "393939393939393939393939", "094900", "", "50");
        long above = 1;
        long below = 1;
        for (int i = 0; i < 12; i++) {
            fraction(x, "part 0 " + i, above, below);
            above *= 2;
            below *= 3;
        }
        x.due("part 0 12 0", FAR - 1);
        x.due("part 0 -1 1", FAR - 1);
        fraction(x, "part 1 11", 2048, 31381059609L);
        fraction(x, "part 2 0", 1, 1);
        fraction(x, "part 2 1", 1, 3);
        fraction(x, "part 2 2", 0, 1);
        x.due("part 2 3 0", FAR - 1);
        x.due("part 3 0 0", FAR - 1);
        fraction(x, "part 4 0", 1, 1);
        x.due("part 4 1 0", FAR - 1);
    }

    /** Of twelve dishes of one kind: so many have p hundredths as it takes until less is left. */
    private static void promise12() {
        for (int kind = 0; kind < 8; kind++) {
            Used x = Used.withPots(("" + kind + "7").repeat(12), "");
            for (int p = 1; p <= 100; p++) {
                x.due("back 0 " + p, fewestAt(kind, p));
                x.due("back 1 " + p, 0);
            }
        }
        // Fewer dishes than could be known: all of them.
        Used x = Used.withPots("2929", "29", "00492929");
        x.due("back 0 1", 2);
        x.due("back 0 67", 1);
        x.due("back 1 100", 1);
        // The scouring is known, what is ahead of it is not.
        x.due("back 2 1", 3);
        x.due("back 2 45", 2);
    }

    private static int fewestAt(int kind, int p) {
        int i = 0;
        while (p > LEFT[kind][i]) {
            i += 2;
        }
        return LEFT[kind][i + 1];
    }

    private static void promise13() {
        // Ties of tastes 0 and 1, 0 and 2, 2 and 3, 1 and 3; all told.
        Used x = Used.withPots("6001", "0802", "2273", "51", "", "0349");
        fraction(x, "taste 0 0", 2, 1);
        fraction(x, "taste 0 1", 2, 1);
        x.due("strongest 0", 0);
        fraction(x, "taste 1 0", 3, 1);
        fraction(x, "taste 1 2", 3, 1);
        x.due("strongest 1", 0);
        fraction(x, "taste 2 2", 4, 1);
        fraction(x, "taste 2 3", 4, 1);
        x.due("strongest 2", 2);
        x.due("strongest 3", 1);
        x.due("strongest 4", -4);
        x.due("strongest 5", -4);
        x = Used.withPots("00", "01", "02", "03", "2201");
        for (int t = 0; t < 4; t++) {
            x.due("strongest " + t, t);
        }
        // 2 and 2 of tastes 1 and 2.
        x.due("strongest 4", 1);
    }

    private static void promise14() {
        // 29, 22, 92 and 2 of 145.
        Used x = Used.withPots("193600", "", "0040");
        int[][] harmful = {{0, 15}, {1, 15}, {2, 7}, {15, 7}, {16, 5}, {19, 5}, {20, 4}, {63, 4}, {64, 0}, {100, 0}};
        for (int[] at : harmful) {
            for (int bans = 0; bans < 16; bans++) {
                x.due("harms 0 " + bans + " " + at[0], (bans & at[1]) != 0 ? 1 : 0);
            }
        }
        for (int bans = 0; bans < 16; bans++) {
            x.due("harms 1 " + bans + " 0", 0);
            x.due("harms 2 " + bans + " 0", 0);
        }
    }

    private static void promise15() {
        Used x = Used.withPots("", "09", "00".repeat(5));
        // No dish; one; eight, of which the last harms; nine; and what is not by threes.
        x.shelve(0, 0);
        x.due("first 0 15 0", -4);
        x.shelve(0, 0, 0, 0, 1);
        x.due("first 0 2 99", 0);
        x.due("first 0 2 100", -4);
        x.due("first 0 1 0", -4);
        int[] eight = new int[24];
        eight[22] = 2;
        eight[23] = 1;
        x.shelve(0, 0, eight);
        x.due("first 0 2 0", 7);
        x.due("first 0 1 0", 0);
        x.due("first 0 8 0", -4);
        for (int size : new int[] {1, 2, 4, 5, 22, 23, 25, 26, 27, 30, 99, 100}) {
            x.shelve(0, 0, new int[size]);
            x.due("first 0 0 0", -13);
        }
        // A pot that harms already does so only once a dish comes to it.
        x.shelve(0, 0, 0, 0, 0, 1, 0, 0);
        x.due("first 0 2 50", 1);
        x.shelve(0, 0, 0, 0, 0, 2, 0, 0);
        x.due("first 0 2 50", -4);
        // Room for two, and the third has none, be it a scouring.
        x = Used.withPots("", "00".repeat(10));
        x.shelve(0, 0, 1, 4, 0, 0, 4, 0, 1, 4, 0, 0, 4, 0, 1, 4, 0, 1, 4, 0);
        x.due("first 0 0 0", 4);
        x.due("dishes 1", 10);
        // What isn't as told goes ahead of what is found.
        x.shelve(0, 0, 0, 0, 1, 0, 8, 0);
        x.due("first 0 2 0", -13);
        // One number of a dish just in range, and just out of it.
        int[][] ends = {{0, 0, 0, 1}, {1, 7, 9, 1}, {2, 0, 0, 0}, {-1, 0, 0, 0}, {0, 8, 0, 0}, {0, -1, 0, 0}, {0, 0, 10, 0},
            {0, 0, -1, 0}, {127, 0, 0, 0}, {-128, 0, 0, 0}, {256, 256 + 7, 512 + 9, 1}};
        for (int[] end : ends) {
            x.shelve(0, 0, end[0], end[1], end[2]);
            x.due("first 0 0 0", end[3] == 1 ? -4 : -13);
        }
    }

    private static void promise16() {
        Used x = Used.withPots("", "29", "2727");
        x.shelve(0, 0, 0, 1, 0, 3, 0, 0, 0, 2, 5, 0);
        int[][] wants = {{2, 50, 16, 20000}, {2, 80, 63, 20000}, {1, 40, 171, 0}, {8, 60, 16, 1000}, {3, 70, 45, 20000},
            {6, 33, 0, -4}, {15, 90, 12, 21110}, {2, 95, 81, 20000}, {0, 0, 243, 0}, {15, 100, 243, 0}, {15, 0, 0, -4}};
        for (int[] want : wants) {
            x.due("week 0 " + want[0] + " " + want[1] + " 0", want[2]);
            x.due("week 0 " + want[0] + " " + want[1] + " 1", want[3]);
        }
        // Behind each: a dish that harms is not mended by a scouring behind it.
        x.shelve(0, 0, 0, 0, 4, 0);
        x.due("week 0 1 50 0", 6);
        x.due("week 0 1 50 1", 10);
        x.shelve(0, 0, 4, 0, 0, 0);
        x.due("week 0 1 50 0", 4);
        x.due("week 0 1 50 1", 1);
        // No dish: one way. One pot: one way. What is no dishes by twos, five at most.
        x.shelve(0, 0);
        x.due("week 0 15 0 0", 1);
        x.due("week 0 15 0 1", 0);
        for (int size : new int[] {1, 3, 9, 11, 12, 13, 99, 100}) {
            x.shelve(0, 0, new int[size]);
            x.due("week 0 0 0 0", -13);
        }
        int[][] ends = {{0, 0, 3}, {7, 9, 3}, {8, 0, -13}, {-1, 0, -13}, {0, 10, -13}, {0, -1, -13}, {256 + 7, 9 - 256, 3}};
        for (int[] end : ends) {
            x.shelve(0, 0, end[0], end[1]);
            x.due("week 0 0 0 0", end[2]);
        }
        weekRoom();
    }

    private static void weekRoom() {
        Used x = Used.withPots("00".repeat(8));
        x.shelve(0, 0, new int[8]);
        x.due("week 0 0 0 0", 1);
        x.due("week 0 0 0 1", 0);
        x.shelve(0, 0, new int[10]);
        x.due("week 0 0 0 0", 0);
        x.due("week 0 0 0 1", -4);
        x.due("pot", 1);
        // Five dishes to two pots, not all to the first.
        x.due("week 0 0 0 0", 31);
        x.due("week 0 0 0 1", 1);
        x.due("dishes 0", 8);
        x.due("dishes 1", 0);
    }

    private static void promise17() {
        Used x = Used.withPots("", "29", "2727", "51");
        // Pot, taste, p, figure: how many, the kind of the first.
        int[][] wants = {{0, 0, 0, 0, 1, 0}, {0, 0, 50, 3, -4, -4}, {0, 1, 0, 0, 1, 1}, {0, 1, 20, 0, -4, -4},
            {0, 1, 99, 9, 1, 0}, {0, 1, 100, 9, -4, -4}, {0, 2, 20, 0, 1, 3}, {0, 3, 20, 0, 1, 5}, {1, 0, 20, 0, 1, 6},
            {1, 1, 99, 9, 0, -4}, {1, 1, 100, 9, -4, -4}, {1, 3, 20, 0, 2, 0}, {1, 3, 90, 3, 2, 4}, {2, 1, 99, 9, 2, 4},
            {2, 3, 99, 0, 0, -4}, {3, 3, 50, 3, 1, 0}, {3, 3, 90, 3, 2, 0}, {3, 0, 0, 0, 0, -4}};
        for (int[] w : wants) {
            String told = "bring " + w[0] + " " + w[1] + " " + w[2] + " " + w[3];
            x.due(told + " 0", w[4]);
            x.due(told + " 1", w[5]);
        }
        // Room for none, one, two.
        x = Used.withPots("27".repeat(12), "27".repeat(11), "27".repeat(10));
        x.due("bring 0 3 99 9 0", 0);
        x.due("bring 0 1 0 9 0", -4);
        x.due("bring 0 1 0 9 1", -4);
        x.due("bring 1 1 0 9 0", 1);
        x.due("bring 1 1 0 9 1", 0);
        x.due("bring 1 1 99 9 0", -4);
        x.due("bring 1 1 99 9 1", -4);
        x.due("bring 2 1 99 9 0", 2);
        x.due("bring 2 1 99 9 1", 4);
    }

    private static void promise18() {
        Used x = Used.withPots("21", "01", "010101", "0141", "410101", "");
        // Pot, n: how many ways with figure 1, the first; the same portions of other tastes are not the same.
        int[][] wants = {{0, 1, 1, 2}, {1, 1, 2, 0}, {2, 3, 2, 0}, {3, 2, 8, 4}, {4, 2, 2, 0}, {5, 1, 1, 4}, {5, 2, 8, 4},
            {5, 3, 64, 4}, {0, 2, 1, 42}, {0, 3, 8, 42}, {2, 1, 0, -4}, {2, 2, 0, -4}};
        for (int[] w : wants) {
            x.due("mayHave " + w[0] + " " + w[1] + " 1 0", w[2]);
            x.due("mayHave " + w[0] + " " + w[1] + " 1 1", w[3]);
        }
        // Tastes count, not how many dishes the pot has had, be it full.
        x = Used.withPots("29".repeat(11) + "49", "29".repeat(10) + "4909", FULL);
        x.due("mayHave 0 1 9 1", 4);
        x.due("mayHave 1 1 9 0", 2);
        x.due("mayHave 1 1 9 1", 0);
        x.due("mayHave 1 2 9 1", 40);
        x.due("mayHave 2 3 9 0", 0);
        x.due("mayHave 2 3 9 1", -4);
        x = Used.withPots("727476");
        x.due("mayHave 0 3 2 0", 0);
        x = Used.withPots("777777");
        x.due("mayHave 0 3 7 1", 77);
        x.due("mayHave 0 3 7 0", 4);
    }

    private static void promise19() {
        Used x = new Used();
        x.due("tells 0", -4);
        x.due("tells 1", -4);
        for (int pots = 1; pots <= 6; pots++) {
            x.due("pot", pots - 1);
            x.due("tells 0", 0);
            x.due("tells 1", pots);
        }
        // One portion of other tastes is one portion: 100 of taste 1 in each.
        x = Used.withPots("01", "05", "29");
        x.due("tells 0", 0);
        x.due("tells 1", 3);
        // Told by taste 1 alone, by 2, by 3.
        x = Used.withPots("01", "");
        x.due("tells 0", 1);
        x.due("tells 1", 1);
        x = Used.withPots("02", "");
        x.due("tells 0", 2);
        x = Used.withPots("", "03", "");
        x.due("tells 0", 3);
        x.due("tells 1", 2);
        // Taste 2 leaves two and two of four, taste 0 three.
        x = Used.withPots("00", "02", "02", "01");
        x.due("tells 0", 2);
        x.due("tells 1", 2);
    }

    private static void promise20() {
        int[][] ofTwenty = {{-87, -23, -87, -14, 0, -16, -22, -94}, {0, 26, 0, 28, 0, 33, 24, 0},
            {-69, -28, -69, -43, 0, -22, -16, -82}, {-63, -28, -63, -23, 0, -33, -9, -77},
            {-58, -28, -58, -22, 0, -24, -19, -73}, {0, 12, 0, 11, 0, 18, 14, 0}, {-49, -27, -49, -31, 0, -25, -15, -66},
            {-46, -27, -46, -21, 0, -30, -11, -63}, {-43, -26, -43, -21, 0, -25, -17, -60}, {0, 7, 0, 6, 0, 11, 9, 0}};
        Used x = Used.withPots("29", "");
        for (int figure = 0; figure < 10; figure++) {
            for (int kind = 0; kind < 8; kind++) {
                x.due("keep 0 1 " + kind + " " + figure, 0);
                x.due("lent 0 0", ofTwenty[figure][kind]);
                x.due("lent 0 1", 0);
            }
        }
        // Be there room or not: a full pot of 59 and more of taste 1.
        x = Used.withPots(FULL);
        int[][] ofFull = {{0, 0, -96}, {1, 1, 38}, {6, 3, -18}, {5, 9, 20}};
        for (int[] w : ofFull) {
            x.due("keep 0 1 " + w[0] + " " + w[1], 0);
            x.due("lent 0 0", w[2]);
        }
        x.due("dishes 0", 12);
    }

    private static void promise21() {
        for (int kind = 0; kind < 8; kind++) {
            Used x = new Used();
            for (int p = 1; p <= 100; p++) {
                x.due("gone " + kind + " " + p % 10 + " " + p, fewestAt(kind, p));
            }
        }
    }

    private static void promise22() {
        // How many, the seed, the portions; draws below zero come of z without its sign's bit.
        int[][] wants = {{1, 0, 100, 0, 0, 0}, {1, 1, 82, 0, 17, 0}, {1, 2, 0, 0, 0, 0}, {1, 3, 0, 0, 27, 72}, {1, -1, 7, 78, 7, 7},
            {1, 11, 54, 9, 9, 27}, {1, 18, 14, 14, 57, 14}, {1, 39, 41, 0, 25, 33}, {2, 7, 0, 0, 0, 0},
            {3, 2147483647, 32, 10, 51, 6}, {3, -2147483648, 0, 0, 0, 100}, {11, 0, 0, 100, 0, 0}, {12, 5, 0, 88, 0, 11},
            {12, -987654321, 16, 2, 77, 2}, {12, 2147483647, 30, 5, 46, 16}, {12, -2147483648, 15, 55, 15, 15}};
        Used x = new Used();
        for (int[] want : wants) {
            for (int t = 0; t < 4; t++) {
                x.due("seeded " + want[0] + " " + want[1] + " " + t, want[2 + t]);
            }
        }
        x.due("count 0", 0);
    }

    private static void promise23() {
        int[] least = {-128, -32768, -2147483648};
        for (int sort = 0; sort < 3; sort++) {
            Used x = new Used();
            x.shelve(0, sort);
            x.due("judge 0", -4);
            x.shelve(0, sort, least[sort]);
            x.due("judge 0", 0);
            x.due("pot", 0);
            x.shelve(0, sort);
            x.due("judge 0", 0);
            x.cook(0, 1, 0, 9);
            // Short by one, as told, long by one; all of it skipped.
            x.shelve(0, sort, 0, 100, 0);
            x.due("judge 0", 3);
            x.shelve(0, sort, 0, 100, 0, 0);
            x.due("judge 0", -4);
            x.shelve(0, sort, 0, 100, 0, 0, 0);
            x.due("judge 0", 4);
            x.shelve(0, sort, least[sort], least[sort], least[sort]);
            x.due("judge 0", 3);
            x.shelve(0, sort, least[sort], least[sort], least[sort], least[sort]);
            x.due("judge 0", -4);
            x.shelve(0, sort, least[sort], least[sort], least[sort], least[sort], least[sort]);
            x.due("judge 0", 4);
            // Only the least number of its own sort is skipped.
            for (int other = 0; other < 3; other++) {
                x.shelve(0, 2, 0, 100, least[other], 0);
                x.due("judge 0", other == 2 ? -4 : 2);
            }
            x.shelve(0, sort, 0, 100, least[sort] + 1, 0);
            x.due("judge 0", 2);
            x.shelve(0, sort, 0, 99, 1, 0);
            x.due("judge 0", 1);
            x.shelve(0, sort, new int[100]);
            x.due("judge 0", 1);
        }
        Used x = Used.withPots("00");
        x.shelve(0, 1, 100, -128, 0, 0);
        x.due("judge 0", 1);
        x.shelve(0, 0, 100, -32768, 0, 0);
        x.due("judge 0", -4);
    }

    private static void promises24And25() {
        Used x = new Used();
        x.due("restore", -3);
        x.due("image", 0);
        for (int pot = 0; pot < 6; pot++) {
            x.due("pot", pot);
        }
        x.cook(5, 12, 5, 5);
        x.due("restore", 0);
        x.due("dishes 5", -1);
        // A pot that was there is new when it comes again.
        x.due("pot", 0);
        for (int pot = 1; pot < 6; pot++) {
            x.due("pot", pot);
        }
        x.due("dishes 5", 0);
        x.due("all 5 0", 0);
        x.due("dish 5 0 0", -4);
        x.cook(5, 12, 0, 3);
        x.due("image", 6);
        x.write(0, "n5;n0;d000;");
        x.due("kitchen 0", 3);
        x.due("restore", 6);
        x.due("dishes 5", 12);
        x.due("dishes 0", 0);
        x.due("dish 5 11 1", 3);
        x.due("pot", -2);
        // Restored twice; what is refused takes no image.
        x.due("kitchen 0", 3);
        x.due("restore", 6);
        x.due("dishes 5", 12);
        x.due("count 1", 12);
        // Shelves stay as they are, taken behind the image, too.
        x.due("keep 1 1 6 9", 0);
        x.due("restore", 6);
        x.due("price 1", 70);
        x.due("kitchen 0", 3);
        x.due("image", 6);
        x.due("restore", 6);
        x.due("dishes 5", 0);
        x.due("dishes 0", 1);
    }

    private static void promise26() {
        Used x = Used.withPots(FULL, "4040", "0040", "4000", "", "40".repeat(12));
        x.due("count 0", 6);
        x.due("count 1", 12 + 2 + 2 + 2 + 12);
        x.due("count 2", 4);
        x.due("count 3", 2 + 1 + 1 + 12);
        x.due("count 4", -1);
        x.due("count -1", -1);
    }

    private static void promise27() {
        Used x = new Used();
        for (int d = 0; d < 8; d++) {
            x.due("keep " + d + " 1 1 " + d, 0);
        }
        for (int d = 0; d < 8; d++) {
            x.due("price " + d, 3 + d);
            x.due("keep " + d + " 0 2147483647 -2147483648", 0);
            x.due("price " + d, -11);
        }
        // A dish, a row and nothing, each in place of the others.
        x.due("keep 7 1 0 0", 0);
        x.due("row 7 2 0", 0);
        x.due("price 7", -12);
        x.due("keep 7 1 5 9", 0);
        x.due("price 7", 14);
        x.due("put 7 0 0", -12);
        x.due("row 7 0 100", 0);
        x.due("keep 7 0 0 0", 0);
        x.due("put 7 0 0", -11);
        x.due("row 7 0 1", 0);
        x.due("row 7 1 2", 0);
        x.due("element 7 1", 0);
    }

    private static void promises28To30() {
        for (int sort = 0; sort < 3; sort++) {
            Used x = new Used();
            for (int size : new int[] {0, 1, 99, 100}) {
                x.due("row 3 " + sort + " " + size, 0);
                for (int i = 0; i < size; i++) {
                    x.due("element 3 " + i, 0);
                }
                x.due("element 3 " + size, Model.STATE);
                x.due("put 3 " + size + " 1", -13);
                x.due("put 3 -1 1", -13);
            }
            x.due("row 3 " + sort + " 101", -1);
            x.due("row 3 " + sort + " -1", -14);
            x.due("put 3 99 77", 0);
            x.due("put 3 0 66", 0);
            x.due("element 3 99", 77);
            x.due("element 3 0", 66);
            x.due("element 3 98", 0);
            x.due("row 3 " + sort + " 100", 0);
            x.due("element 3 99", 0);
        }
        // What is put in keeps its lowest bits: 8, 16, all 32.
        long[][] kept = {{127, 127, 127, 127}, {128, -128, 128, 128}, {-128, -128, -128, -128}, {-129, 127, -129, -129},
            {255, -1, 255, 255}, {256, 0, 256, 256}, {32767, -1, 32767, 32767}, {32768, 0, -32768, 32768},
            {-32768, 0, -32768, -32768}, {-32769, -1, 32767, -32769}, {65535, -1, -1, 65535}, {65536, 0, 0, 65536},
            {2147483647, -1, -1, 2147483647}, {-2147483648, 0, 0, -2147483648}, {-1, -1, -1, -1}};
        Used x = new Used();
        for (int sort = 0; sort < 3; sort++) {
            x.due("row " + sort + " " + sort + " 1", 0);
            for (long[] value : kept) {
                x.due("put " + sort + " 0 " + value[0], 0);
                x.due("element " + sort + " 0", value[1 + sort]);
            }
        }
    }

    private static void promise31() {
        Used x = new Used();
        x.shelve(0, 1, 1, 2, 3, 4, 5);
        x.due("copy 0 0 0 1 4", 4);
        dueRow(x, 0, 1, 1, 2, 3, 4);
        x.due("copy 0 1 0 0 4", 4);
        dueRow(x, 0, 1, 2, 3, 4, 4);
        x.due("copy 0 0 0 0 5", 5);
        dueRow(x, 0, 1, 2, 3, 4, 4);
        x.shelve(1, 1, 7, 8);
        x.due("copy 1 0 0 3 2", 2);
        dueRow(x, 0, 1, 2, 3, 7, 8);
        dueRow(x, 1, 7, 8);
        // None at the very end, and of a row of no elements.
        x.due("copy 0 5 1 2 0", 0);
        x.shelve(2, 1);
        x.due("copy 2 0 0 5 0", 0);
        x.due("copy 2 0 2 0 0", 0);
        x.due("copy 2 0 0 0 1", -13);
        x.due("copy 0 0 2 0 1", -13);
        dueRow(x, 0, 1, 2, 3, 7, 8);
        // A hundred.
        x.due("row 3 2 100", 0);
        x.due("row 4 2 100", 0);
        x.due("put 3 0 -5", 0);
        x.due("put 3 99 2147483647", 0);
        x.due("copy 3 0 4 0 100", 100);
        x.due("element 4 0", -5);
        x.due("element 4 99", 2147483647);
        x.due("copy 3 0 4 0 101", -13);
        x.due("copy 3 1 4 0 100", -13);
        x.due("copy 3 0 4 1 100", -13);
        x.due("copy 3 99 4 99 1", 1);
        x.due("copy 3 100 4 100 0", 0);
        x.due("copy 3 101 4 100 0", -13);
        x.due("copy 3 100 4 101 0", -13);
        x.due("copy 3 100 4 99 1", -13);
        x.due("copy 3 99 4 100 1", -13);
    }

    private static void dueRow(Used x, int d, int... want) {
        for (int i = 0; i < want.length; i++) {
            x.due("element " + d + " " + i, want[i]);
        }
        x.due("element " + d + " " + want.length, Model.STATE);
    }

    private static void promises32And33() {
        for (int figure = 0; figure < 10; figure++) {
            int poison = 7 * (figure + 1);
            int[] prices = {3, 3 + figure, 6, 7, 1, 5 + figure, poison, 2 + figure};
            int[] failures = {figure, figure, figure, figure, -15, 100 + figure, 200 + poison, figure};
            Used x = new Used();
            for (int kind = 0; kind < 8; kind++) {
                x.due("keep " + kind + " 1 " + kind + " " + figure, 0);
                x.due("price " + kind, prices[kind]);
                x.due("toss " + kind, figure == 0 ? -15 : failures[kind]);
                x.due("price " + kind, prices[kind]);
            }
        }
    }

    /** The 512th call is answered as the first, the dearest ones among them. */
    private static void lastCall() {
        Used x = Used.withPots("", "", "", "", "", "");
        x.shelve(0, 0, new int[10]);
        for (int i = 0; i < 120; i++) {
            x.due("week 0 15 100 0", 7776);
            x.due("mayHave 0 3 9 0", 64);
            x.due("bring 0 0 100 9 0", -4);
            x.due("tells 1", 6);
        }
        for (int i = 0; i < Used.PROMISED - 480 - 17 - 1; i++) {
            x.due("count 0", 6);
        }
        x.due("pot", -2);
    }
}
