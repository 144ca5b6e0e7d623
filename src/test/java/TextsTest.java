/** Promise 2, kitchen, and the terms of it: every sign at every place, every number of every statement, the limits. */
final class TextsTest {
    private static final int TEXT = 5;

    public static void main(String[] args) {
        everySign();
        everyEnd();
        numbersOfStatements();
        leastAndMost();
        longest();
        bytesKeepLowestBits();
        kindOneGoesAhead();
        eachOnWhatThoseAheadMade();
        withAFaultNothing();
        newAndAlike();
        Check.end("TextsTest");
    }

    private static Used threePots() {
        return Used.withPots("", "1253", "242424242424242424242424");
    }

    private static void reads(Used x, String text, long want) {
        x.write(TEXT, text);
        Check.due("kitchen of " + text, x.call("kitchen " + TEXT), want);
    }

    /** Each of the 256 bytes at each place: kind 1 there, if no statement goes on with it. */
    private static void everySign() {
        String text = "p;n0;c01;d000;";
        String goesOn = "L;LN;LNN;LNNN;";
        for (int at = 0; at < text.length(); at++) {
            for (int sign = 0; sign < 256; sign++) {
                char c = (char) sign;
                boolean fits;
                switch (goesOn.charAt(at)) {
                    case 'L': fits = c == 'p' || c == 'n' || c == 'c' || c == 'd'; break;
                    case 'N': fits = c >= '0' && c <= '9'; break;
                    default: fits = c == ';'; break;
                }
                if (!fits) {
                    reads(threePots(), text.substring(0, at) + c + text.substring(at + 1), -1000 - at);
                }
            }
        }
        reads(threePots(), text, 4);
    }

    /** A text that ends too early: the size; where a statement ends a kitchen may end. */
    private static void everyEnd() {
        String text = "p;n0;c01;d000;";
        String done = " 1  2   3    4";
        for (int size = 0; size <= text.length(); size++) {
            boolean ends = size > 0 && done.charAt(size - 1) != ' ';
            reads(threePots(), text.substring(0, size), ends ? done.charAt(size - 1) - '0' : -1000 - size);
        }
    }

    private static void numbersOfStatements() {
        for (int a = 0; a < 10; a++) {
            reads(threePots(), "p;n" + a + ";", a < 4 ? 2 : -2002);
            reads(threePots(), "n" + a + ";", a < 3 ? 1 : -2000);
            for (int b = 0; b < 10; b++) {
                reads(threePots(), "c" + a + b + ";", a < 3 && b < 3 && a != b ? 1 : -2000);
                // Pot 2 is full.
                reads(threePots(), "d" + a + b + "0;", a < 2 && b < 8 ? 1 : -2000);
                reads(threePots(), "n2;d2" + a + b + ";", a < 8 ? 2 : -2003);
                Used x = Used.withPots("");
                reads(x, "d0" + a + b + ";", a < 8 ? 1 : -2000);
                x.due("dishes 0", a < 8 ? 1 : 0);
                x.due("dish 0 0 0", a < 8 ? a : -4);
                x.due("dish 0 0 1", a < 8 ? b : -4);
            }
        }
    }

    private static void leastAndMost() {
        // At least one statement.
        reads(threePots(), "", -1000);
        reads(new Used(), "p;", 1);
        // Pots 0 to 5.
        reads(new Used(), "p;".repeat(6), 6);
        reads(new Used(), "p;".repeat(7), -2012);
        reads(threePots(), "p;".repeat(3), 3);
        reads(threePots(), "p;".repeat(4), -2006);
        reads(new Used(), "p;".repeat(6) + "d500;", 7);
        reads(new Used(), "p;".repeat(6) + "d600;", -2012);
        reads(new Used(), "p;".repeat(5) + "d500;", -2010);
        // Twelve dishes.
        reads(Used.withPots(""), "d000;".repeat(12), 12);
        reads(Used.withPots(""), "d000;".repeat(13), -2060);
        reads(Used.withPots("00"), "d000;".repeat(11), 11);
        reads(Used.withPots("00"), "d000;".repeat(12), -2055);
        reads(threePots(), "d200;", -2000);
        reads(threePots(), "d100;d200;", -2005);
    }

    private static void longest() {
        Used x = threePots();
        reads(x, "n0;".repeat(32) + "p;p;", 34);
        x.due("count 0", 5);
        reads(threePots(), "n0;".repeat(33), 33);
        reads(threePots(), "n0;".repeat(33) + ";", -1099);
        reads(threePots(), "n0;".repeat(33) + "p", -1100);
        reads(threePots(), "d000;".repeat(20), -2060);
        x = Used.withPots("", "", "", "", "", "");
        reads(x, "n0;".repeat(32) + "n1;p", -1100);
        reads(x, "n0;".repeat(32) + "n1;", 33);
        reads(x, "n0;".repeat(31) + "c01;p;", -2097);
        reads(x, "n0;".repeat(30) + "c01;c02;p;", -2098);
        x = new Used();
        reads(x, "p;".repeat(50), -2012);
        x.due("count 0", 0);
    }

    private static void bytesKeepLowestBits() {
        Used x = new Used();
        x.shelve(TEXT, 0, 'p' + 256, ';' - 256, 'd' - 65536, '0' + 512, '3' - 2048, '9' + 256 * 77, ';' + (1 << 31));
        x.due("kitchen " + TEXT, 2);
        x.due("dish 0 0 0", 3);
        x.due("dish 0 0 1", 9);
        // A sign of 128 more is another one.
        x.shelve(TEXT, 0, 'p', ';' + 128);
        x.due("kitchen " + TEXT, -1001);
        x.shelve(TEXT, 0, 'p' - 128, ';');
        x.due("kitchen " + TEXT, -1000);
        x.shelve(TEXT, 0, 'n', '0' - 128, ';');
        x.due("kitchen " + TEXT, -1001);
    }

    private static void kindOneGoesAhead() {
        // A statement that can't be done stands first, and a byte that can't stand is the very last.
        reads(threePots(), "d999;p;p;p;p;x", -1013);
        reads(threePots(), "d200;n9;c00;d00", -1015);
        reads(new Used(), "n0;n0;n0;n", -1010);
        reads(new Used(), "d090;;", -1005);
        // A number out of range is kind 2, so a sign that is no digit behind it is told.
        reads(threePots(), "d08/;", -1003);
        reads(threePots(), "d9:0;", -1002);
        reads(threePots(), "c9:;", -1002);
    }

    private static void eachOnWhatThoseAheadMade() {
        reads(new Used(), "n0;", -2000);
        reads(new Used(), "p;n0;", 2);
        reads(new Used(), "n0;p;", -2000);
        reads(new Used(), "p;c01;p;", -2002);
        reads(new Used(), "p;p;c01;", 3);
        reads(new Used(), "p;d100;p;", -2002);
        reads(new Used(), "p;p;d100;", 3);
        reads(threePots(), "d200;n2;", -2000);
        reads(threePots(), "n2;d200;", 2);
        reads(threePots(), "c02;d200;", 2);
        reads(threePots(), "c21;d100;", -2004);
        // Of several that can't be done, the first.
        reads(threePots(), "p;d200;n9;c00;", -2002);
        reads(threePots(), "p;n9;d200;c00;", -2002);
        reads(threePots(), "p;n0;c00;n9;d200;", -2005);
    }

    private static void withAFaultNothing() {
        String was = untold(threePots());
        for (String text : new String[] {"p;d000;n1;c12;x", "p;d000;n1;c12;n9;", "n2;p;p;p;p;", "c01;c02;d080;", "d000;d200;"}) {
            Used x = threePots();
            x.write(TEXT, text);
            Check.isTrue("has a fault: " + text, x.call("kitchen " + TEXT) < 0);
            Check.isTrue("nothing comes of " + text, untold(x).equals(was));
        }
        // The image stays, with a fault and without.
        Used x = threePots();
        x.due("image", 3);
        reads(x, "n1;n2;p;d009;", 4);
        reads(x, "d009;x", -1005);
        x.due("restore", 3);
        Check.isTrue("as it was", untold(x).equals(was));
    }

    /** What can be seen, but for the text. */
    private static String untold(Used x) {
        x.due("keep " + TEXT + " 0 0 0", 0);
        String seen = x.state();
        return seen.substring(0, seen.indexOf("restore"));
    }

    private static void newAndAlike() {
        Used x = threePots();
        // The second one becomes as the first is: tastes, dishes and all; the first stays.
        reads(x, "c12;", 1);
        x.due("dishes 1", 2);
        x.due("dishes 2", 2);
        x.due("dish 2 0 0", 5);
        x.due("dish 2 0 1", 3);
        x.due("dish 2 1 0", 1);
        x.due("dish 2 1 1", 2);
        for (int t = 0; t < 4; t++) {
            x.due("taste 2 " + t + " 0", x.call("taste 1 " + t + " 0"));
            x.due("taste 2 " + t + " 1", x.call("taste 1 " + t + " 1"));
        }
        x.due("all 2 0", 10 * 9 + 4 * 7);
        x.due("all 2 1", 9);
        // As a new one is.
        reads(x, "c01;", 1);
        x.due("dishes 1", 0);
        x.due("all 1 0", 0);
        x.due("all 1 1", 1);
        x.due("dishes 0", 0);
        reads(x, "n2;", 1);
        x.due("dishes 2", 0);
        x.due("all 2 0", 0);
        x.due("dish 2 0 0", -4);
        x.due("count 0", 3);
        // New again, it starts from no tastes.
        reads(x, "d205;n2;d201;", 3);
        x.due("dishes 2", 1);
        x.due("all 2 0", 2);
        x.due("all 2 1", 1);
        reads(x, "n2;n2;", 2);
        x.due("dishes 2", 0);
    }
}
