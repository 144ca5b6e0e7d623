/**
 * Each refusal of each call by its own number; where two apply, the one that goes ahead; and none of them changes
 * anything, nor does a call that only asks. What the shelves and pots hold is told at Begun.
 */
final class RefusalsTest {
    private static final long FAR = -1000000000L;

    private static String begun;
    private static String begunWithoutPots;

    public static void main(String[] args) {
        begun = Begun.object().state();
        begunWithoutPots = Begun.withoutPots().state();
        kitchen();
        cook();
        noRoomForPots();
        noneSuch();
        first();
        week();
        weekWithoutPots();
        which();
        judge();
        restoreAndTells();
        keepAndRow();
        putAndElement();
        copy();
        priceAndToss();
        asking();
        Check.end("RefusalsTest");
    }

    /** The call is refused, and all is as it was. */
    private static void refused(String told, long want) {
        Used x = Begun.object();
        x.due(told, want);
        Check.isTrue(told + " changes nothing", x.state().equals(begun));
    }

    private static void refusedWithoutPots(String told, long want) {
        Used x = Begun.withoutPots();
        x.due(told, want);
        Check.isTrue(told + " changes nothing", x.state().equals(begunWithoutPots));
    }

    private static void kitchen() {
        refused("kitchen -1", -1);
        refused("kitchen 8", -1);
        refused("kitchen 0", -11);
        // -12 is no ROW of bytes: a dish, shorts, ints; of no elements, too, ahead of a fault.
        refused("kitchen 1", -12);
        refused("kitchen 4", -12);
        refused("kitchen 5", -12);
        // The plan and the row of dishes are no texts.
        refused("kitchen 2", -1000);
        refused("kitchen 3", -1000);
    }

    private static void cook() {
        refused("cook -1 1", -1);
        refused("cook 8 1", -1);
        refused("cook 1 -1", -1);
        refused("cook 1 3", -1);
        refused("cook 0 1", -11);
        refused("cook 3 1", -12);
        refused("cook 4 1", -12);
        refused("cook 5 1", -12);
        refused("cook 1 2", -2);
        // -1 ahead of -11, of -12 and of -2, then -11 and -12 ahead of -2.
        refused("cook 0 3", -1);
        refused("cook 3 -1", -1);
        refused("cook 8 2", -1);
        refused("cook -1 2", -1);
        refused("cook 0 2", -11);
        refused("cook 3 2", -12);
        refusedWithoutPots("cook 1 0", -1);
        refusedWithoutPots("cook 0 0", -1);
    }

    private static void noRoomForPots() {
        Used x = Used.withPots("", "12", "34", "", "56", "79");
        String six = Used.withPots("", "12", "34", "", "56", "79").state();
        x.due("pot", -2);
        Check.isTrue("pot changes nothing", x.state().equals(six));
    }

    private static void noneSuch() {
        refused("dish 1 3 0", -4);
        refused("dish 0 0 0", -4);
        refused("dish 2 12 1", -4);
        refused("strongest 0", -4);
        // -1 ahead of -4.
        refused("dish 3 3 0", -1);
        refused("dish -1 0 0", -1);
        refused("dish 1 3 2", -1);
        refused("dish 0 0 -1", -1);
        refused("dish 1 -1 0", -1);
        refused("dish 0 -1 0", -1);
        refused("strongest 3", -1);
        refused("part 0 0 0", FAR - 1);
        refused("part 1 3 0", FAR - 1);
        refused("part 2 12 1", FAR - 1);
        refused("part 1 -1 0", FAR - 1);
        refused("bring 2 0 100 0 2", -1);
        refused("bring 2 0 100 10 0", -1);
        refused("bring 2 0 101 0 0", -1);
        refused("bring 2 4 100 0 0", -1);
        refused("mayHave 2 1 0 2", -1);
        refused("mayHave 2 1 10 1", -1);
        refused("mayHave 2 4 0 1", -1);
        refused("first 2 16 100", -1);
        refused("week 3 16 0 1", -1);
        refused("week 3 15 0 2", -1);
        refusedWithoutPots("dish 0 0 0", -1);
        refusedWithoutPots("strongest 0", -1);
        refusedWithoutPots("mayHave 0 1 0 1", -1);
        refusedWithoutPots("bring 0 0 0 0 1", -1);
    }

    private static void first() {
        refused("first 0 0 0", -11);
        refused("first 1 0 0", -12);
        refused("first 4 0 0", -12);
        refused("first 5 0 0", -12);
        refused("first 3 0 0", -13);
        refused("first 6 0 0", -13);
        // -1 ahead of -11, -12, -13; shelf 4 is no plan, either.
        for (String wrong : new String[] {"16 0", "-1 0", "0 101", "0 -1"}) {
            for (int d = 0; d < 7; d++) {
                refused("first " + d + " " + wrong, -1);
            }
        }
        refusedWithoutPots("first 0 0 0", -11);
        refusedWithoutPots("first 1 0 0", -12);
        // The plan's pot is not there.
        refusedWithoutPots("first 2 0 0", -13);
    }

    private static void week() {
        refused("week 0 0 0 0", -11);
        refused("week 1 0 0 0", -12);
        refused("week 4 0 0 0", -12);
        refused("week 5 0 0 0", -12);
        refused("week 2 0 0 0", -13);
        refused("week 6 0 0 0", -13);
        for (String wrong : new String[] {"16 0 0", "-1 0 0", "0 101 0", "0 -1 0", "0 0 2", "0 0 -1"}) {
            for (int d = 0; d < 7; d++) {
                refused("week " + d + " " + wrong, -1);
            }
        }
    }

    private static void weekWithoutPots() {
        for (int d = 0; d < 7; d++) {
            refusedWithoutPots("week " + d + " 0 0 0", -3);
            refusedWithoutPots("week " + d + " 15 100 1", -3);
        }
        // "its -1 ahead of -3"
        for (String wrong : new String[] {"8 0 0 0", "-1 0 0 0", "3 16 0 0", "3 -1 0 0", "3 0 101 0", "3 0 -1 0",
                "3 0 0 2", "3 0 0 -1", "0 16 0 0", "1 0 101 0", "2 0 0 2"}) {
            refusedWithoutPots("week " + wrong, -1);
        }
    }

    private static void which() {
        refused("lent 0 1", FAR - 11);
        refused("lent 2 1", FAR - 12);
        refused("lent 4 1", FAR - 12);
        refused("lent 5 1", FAR - 12);
        refused("lent 1 3", FAR - 1);
        refused("lent 1 -1", FAR - 1);
        refused("lent 8 1", FAR - 1);
        refused("lent -1 1", FAR - 1);
        // -1 ahead of -11 and -12; no room is no refusal.
        refused("lent 0 3", FAR - 1);
        refused("lent 2 3", FAR - 1);
        refused("lent 0 2", FAR - 11);
        refused("lent 3 2", FAR - 12);
        refusedWithoutPots("lent 1 0", FAR - 1);
        // Two wrong numbers are one refusal.
        refused("gone 8 10 0", -1);
        refused("seeded 13 0 4", -1);
        refused("taste 3 4 2", FAR - 1);
        refused("all 3 2", FAR - 1);
    }

    private static void judge() {
        refused("judge -1", -1);
        refused("judge 8", -1);
        refused("judge 0", -11);
        refused("judge 1", -12);
        // Rows of every sort are looked at: 1 is no portion of taste 0 of pot 0, and no element is short.
        refused("judge 2", 0);
        refused("judge 4", 0);
        refused("judge 5", 0);
        refusedWithoutPots("judge 5", -4);
        refusedWithoutPots("judge 0", -11);
        refusedWithoutPots("judge 1", -12);
        refusedWithoutPots("judge 8", -1);
    }

    private static void restoreAndTells() {
        refusedWithoutPots("restore", -3);
        refusedWithoutPots("tells 0", -4);
        refusedWithoutPots("tells 1", -4);
        refusedWithoutPots("tells 2", -1);
        refusedWithoutPots("tells -1", -1);
        refused("tells 2", -1);
        refused("count -1", -1);
        refused("count 4", -1);
    }

    private static void keepAndRow() {
        refused("keep 1 1 8 0", -1);
        refused("keep 1 1 -1 0", -1);
        refused("keep 2 1 0 10", -1);
        refused("keep 2 1 0 -1", -1);
        refused("keep 2 2 0 0", -1);
        refused("keep 2 -1 0 0", -1);
        refused("keep 8 0 0 0", -1);
        refused("keep -1 1 0 0", -1);
        refused("row 2 0 101", -1);
        refused("row 1 3 0", -1);
        refused("row 1 -1 0", -1);
        refused("row 8 0 0", -1);
        refused("row -1 0 0", -1);
        refused("row 2 0 -1", -14);
        refused("row 0 2 -1", -14);
        // -1 ahead of -14.
        refused("row 8 0 -1", -1);
        refused("row -1 0 -1", -1);
        refused("row 2 3 -1", -1);
        refused("row 2 -1 -1", -1);
    }

    private static void putAndElement() {
        refused("put 0 0 1", -11);
        refused("put 1 0 1", -12);
        refused("put 2 3 1", -13);
        refused("put 2 -1 1", -13);
        refused("put 5 0 1", -13);
        // -1 ahead of -13, -11 and -12 ahead of -13.
        refused("put 8 -1 1", -1);
        refused("put -1 0 1", -1);
        refused("put 0 -1 1", -11);
        refused("put 1 -1 1", -12);
        refused("put 1 100 1", -12);
        refused("element 0 0", Model.STATE);
        refused("element 1 0", Model.STATE);
        refused("element 2 3", Model.STATE);
        refused("element 2 -1", Model.STATE);
        refused("element 5 0", Model.STATE);
        refused("element 8 0", Model.ARGUMENT);
        refused("element -1 0", Model.ARGUMENT);
        refused("element 8 -1", Model.ARGUMENT);
        refused("element -1 100", Model.ARGUMENT);
    }

    private static void copy() {
        refused("copy -1 0 2 0 0", -1);
        refused("copy 8 0 2 0 0", -1);
        refused("copy 2 0 -1 0 0", -1);
        refused("copy 2 0 8 0 0", -1);
        refused("copy 0 0 2 0 0", -11);
        refused("copy 2 0 0 0 0", -11);
        refused("copy 0 0 0 0 0", -11);
        refused("copy 1 0 2 0 0", -12);
        refused("copy 2 0 1 0 0", -12);
        refused("copy 1 0 1 0 0", -12);
        refused("copy 2 0 4 0 0", -12);
        refused("copy 4 0 5 0 0", -12);
        refused("copy 5 0 3 0 0", -12);
        // Bytes 1, 7, 9 come to bytes 7, 9.
        refused("copy 2 -1 3 0 1", -13);
        refused("copy 2 0 3 -1 1", -13);
        refused("copy 2 0 3 0 -1", -13);
        refused("copy 2 0 3 0 3", -13);
        refused("copy 2 1 3 0 3", -13);
        refused("copy 3 1 2 0 2", -13);
        refused("copy 2 2 3 0 2", -13);
        refused("copy 2 0 3 1 2", -13);
        refused("copy 2 4 3 0 0", -13);
        refused("copy 2 0 3 3 0", -13);
        refused("copy 2 3 3 0 1", -13);
        refused("copy 2 0 3 2 1", -13);
        refused("copy 5 0 5 0 1", -13);
        refused("copy 2 1 3 1 2147483647", -13);
        refused("copy 2 2147483647 3 0 1", -13);
        refused("copy 2 0 3 2147483647 1", -13);
        refused("copy 2 2147483647 3 2147483647 2147483647", -13);
        refused("copy 2 -2147483648 3 0 -2147483648", -13);
        // -1 ahead of all, -11 ahead of -12 and -13, -12 ahead of -13.
        refused("copy 0 0 8 0 0", -1);
        refused("copy 1 0 -1 0 0", -1);
        refused("copy 8 -1 2 0 1", -1);
        refused("copy 1 0 0 0 0", -11);
        refused("copy 0 0 1 0 0", -11);
        refused("copy 0 -1 2 0 1", -11);
        refused("copy 2 0 0 0 -1", -11);
        refused("copy 1 -1 2 0 1", -12);
        refused("copy 2 0 1 0 -1", -12);
        refused("copy 2 9 4 0 1", -12);
    }

    private static void priceAndToss() {
        for (String call : new String[] {"price ", "toss "}) {
            refused(call + "-1", -1);
            refused(call + "8", -1);
            refused(call + "0", -11);
            refused(call + "2", -12);
            refused(call + "4", -12);
            refused(call + "5", -12);
        }
        for (int kind = 0; kind < 8; kind++) {
            for (int figure = 0; figure < 10; figure++) {
                Used x = new Used();
                x.due("keep 3 1 " + kind + " " + figure, 0);
                Check.isTrue("has a failure", (x.call("toss 3") != -15) == (kind != 4 && figure != 0));
            }
        }
    }

    /** "In mind (nothing stays)", and what is read or taken from a shelf stays there. */
    private static void asking() {
        String[] calls = {"dish 1 0 0", "dishes 2", "taste 1 0 0", "all 1 1", "portion 2 1", "over 2 1 50", "part 2 11 1",
            "back 2 1", "strongest 2", "harms 2 15 0", "first 2 15 100", "first 2 1 10", "week 3 15 100 0",
            "week 3 0 0 1", "bring 0 0 99 0 0", "bring 1 3 100 3 1", "bring 2 1 50 3 1", "mayHave 0 3 9 0", "mayHave 2 2 9 1",
            "tells 0", "tells 1", "lent 1 0", "lent 1 2", "gone 2 9 1", "seeded 12 77 3", "judge 2", "judge 5", "count 0",
            "count 3", "element 2 2", "price 1", "toss 1", "copy 2 0 3 0 0"};
        for (String told : calls) {
            Used x = Begun.object();
            long once = x.call(told);
            x.due(told, once);
            Check.isTrue(told + " changes nothing", x.state().equals(begun));
        }
        Used x = Begun.object();
        x.due("kitchen 6", 1);
        for (int i = 0; i < 3; i++) {
            x.due("element 6 " + i, "n1;".charAt(i));
        }
        x.due("cook 1 0", 1);
        x.due("price 1", 14 - 2);
    }
}
