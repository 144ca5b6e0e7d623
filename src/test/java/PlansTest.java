/** Promises 15 to 17: first, week, bring. */
final class PlansTest {
    public static void main(String[] args) {
        firstHarm();
        firstRefuses();
        weekWays();
        weekRefuses();
        bringDishes();
        bringRefuses();
        Check.end("PlansTest");
    }

    private static void firstHarm() {
        ThirdOfTheLast x = Check.after("p;p;d009;");
        Check.shelve(x, 0, 0);
        Check.due("no dish", x.first(0, 15, 0), -4);
        Check.shelve(x, 0, 0, 1, 0, 0, 0, 0, 0, 0, 0, 1);
        // Pot 0 has 10 thirds of taste 1 and 1 of taste 0 behind its first dish: 76 hundredths, cut.
        Check.due("first", x.first(0, 2, 76), 1);
        Check.due("first", x.first(0, 2, 77), 2);
        Check.due("first", x.first(0, 1, 0), 0);
        Check.due("first", x.first(0, 1, 100), -4);
        Check.due("no bans", x.first(0, 0, 0), -4);
        Check.due("nothing stays", x.dishes(0) + x.dishes(1), 1);
        x = Check.after("p;p;" + "d000;".repeat(11));
        Check.shelve(x, 0, 0, 0, 0, 0, 1, 0, 0, 0, 0, 0);
        Check.due("no room", x.first(0, 0, 0), 2);
        Check.due("harm ahead of it", x.first(0, 1, 0), 0);
        Check.due("harm ahead of it", x.first(0, 1, 100), 2);
        Check.shelve(x, 0, 0, new int[24]);
        Check.due("eight dishes", x.first(0, 0, 0), 1);
    }

    private static void firstRefuses() {
        ThirdOfTheLast x = Check.after("p;p;");
        Check.due("shelf", x.first(-1, 0, 0), -1);
        Check.due("shelf", x.first(8, 0, 0), -1);
        Check.due("bans", x.first(0, -1, 0), -1);
        Check.due("bans", x.first(0, 16, 0), -1);
        Check.due("p", x.first(0, 0, -1), -1);
        Check.due("p", x.first(0, 0, 101), -1);
        Check.due("nothing", x.first(0, 0, 0), -11);
        x.keep(0, 1, 0, 0);
        Check.due("a dish", x.first(0, 0, 0), -12);
        Check.shelve(x, 0, 1, 0, 0, 0);
        Check.due("shorts", x.first(0, 0, 0), -12);
        Check.due("p goes ahead", x.first(0, 0, 101), -1);
        Check.shelve(x, 0, 0, 0, 0);
        Check.due("no threes", x.first(0, 0, 0), -13);
        Check.shelve(x, 0, 0, new int[27]);
        Check.due("nine dishes", x.first(0, 0, 0), -13);
        int[][] bad = {{2, 0, 0}, {-1, 0, 0}, {0, 8, 0}, {0, -1, 0}, {0, 0, 10}, {0, 0, -1}};
        for (int[] dish : bad) {
            Check.shelve(x, 0, 0, 1, 7, 9, dish[0], dish[1], dish[2]);
            Check.due("not as told", x.first(0, 0, 0), -13);
        }
        Check.shelve(x, 0, 0, 1, 7, 9);
        Check.due("as told", x.first(0, 0, 0), -4);
    }

    private static void weekWays() {
        ThirdOfTheLast x = Check.after("p;p;d042;");
        Check.shelve(x, 0, 0);
        Check.due("no dish", x.week(0, 15, 0, 0), 1);
        Check.due("no dish", x.week(0, 15, 0, 1), 0);
        Check.shelve(x, 0, 0, 0, 0, 0, 1);
        // Taste 1 harms where taste 0 does not stand beside it: both must come into one pot.
        Check.due("ways", x.week(0, 2, 90, 0), 2);
        Check.due("first", x.week(0, 2, 90, 1), 0);
        Check.due("ways", x.week(0, 0, 0, 0), 4);
        Check.due("none", x.week(0, 1, 0, 0), 0);
        Check.due("none", x.week(0, 1, 0, 1), -4);
        Check.due("nothing stays", x.count(1), 1);
        x = Check.after("p;p;p;" + "d000;".repeat(11) + "d100;d100;");
        Check.shelve(x, 0, 0, 0, 1, 0, 1, 0, 1);
        // Room for one in pot 0: all but those ways in which two or three dishes go there.
        Check.due("ways", x.week(0, 0, 0, 0), 8 + 3 * 4);
        Check.due("first", x.week(0, 0, 0, 1), 11);
        x = Check.after("p;p;d009;");
        Check.shelve(x, 0, 0, 0, 0, 0, 4);
        // Taste 0 up to 50 hundredths: pot 1 is left out, and pot 0 bears the first dish alone.
        Check.due("ways", x.week(0, 1, 50, 0), 0);
        Check.shelve(x, 0, 0, 0, 0, 4, 0, 0, 1);
        // A scouring may come anywhere, 1 of taste 0 into pot 0 alone, 2 of taste 1 anywhere.
        Check.due("ways", x.week(0, 1, 50, 0), 4);
        Check.due("first", x.week(0, 1, 50, 1), 0);
        Check.due("first", x.week(0, 3, 77, 1), -4);
        x = Check.after("p;p;p;p;p;p;");
        Check.shelve(x, 0, 0, new int[10]);
        Check.due("all ways", x.week(0, 0, 0, 0), 7776);
        x = Check.after("p;p;p;p;p;p;" + "d000;".repeat(12) + "c01;c02;c03;c04;");
        Check.shelve(x, 0, 0, new int[10]);
        Check.due("one has room", x.week(0, 0, 0, 0), 1);
        Check.due("the last one", x.week(0, 0, 0, 1), 55555);
    }

    private static void weekRefuses() {
        ThirdOfTheLast x = new ThirdOfTheLast();
        Check.due("no pots", x.week(0, 0, 0, 0), -3);
        Check.due("shelf", x.week(8, 0, 0, 0), -1);
        Check.due("shelf", x.week(-1, 0, 0, 0), -1);
        Check.due("bans", x.week(0, 16, 0, 0), -1);
        Check.due("bans", x.week(0, -1, 0, 0), -1);
        Check.due("p", x.week(0, 0, 101, 0), -1);
        Check.due("p", x.week(0, 0, -1, 0), -1);
        Check.due("what", x.week(0, 0, 0, 2), -1);
        Check.due("what", x.week(0, 0, 0, -1), -1);
        x.keep(0, 1, 0, 0);
        Check.due("no pots, a dish", x.week(0, 0, 0, 0), -3);
        x.pot();
        Check.due("a dish", x.week(0, 0, 0, 0), -12);
        Check.due("nothing", x.week(1, 0, 0, 0), -11);
        Check.shelve(x, 0, 2, 0, 0);
        Check.due("ints", x.week(0, 0, 0, 0), -12);
        Check.shelve(x, 0, 0, 0, 0, 0);
        Check.due("no twos", x.week(0, 0, 0, 0), -13);
        Check.shelve(x, 0, 0, new int[12]);
        Check.due("six dishes", x.week(0, 0, 0, 0), -13);
        int[][] bad = {{8, 0}, {-1, 0}, {0, 10}, {0, -1}};
        for (int[] dish : bad) {
            Check.shelve(x, 0, 0, 7, 9, dish[0], dish[1]);
            Check.due("not as told", x.week(0, 0, 0, 0), -13);
        }
    }

    private static void bringDishes() {
        ThirdOfTheLast x = Check.after("p;p;d009;");
        Check.due("none needed", x.bring(0, 1, 99, 0, 0), 0);
        Check.due("none needed", x.bring(0, 1, 99, 0, 1), -4);
        Check.due("a new pot", x.bring(1, 3, 0, 3, 0), 1);
        Check.due("a new pot", x.bring(1, 3, 0, 3, 1), 0);
        // Taste 3 with figure 0 comes of soups and broths alone.
        Check.due("of a broth", x.bring(1, 3, 25, 0, 0), 1);
        Check.due("of a broth", x.bring(1, 3, 25, 0, 1), 5);
        // All of taste 0 behind 10 of taste 1: a scouring, then a dish.
        Check.due("two", x.bring(0, 0, 99, 0, 0), 2);
        Check.due("two", x.bring(0, 0, 99, 0, 1), 4);
        Check.due("never", x.bring(0, 0, 100, 0, 0), -4);
        Check.due("never", x.bring(0, 0, 100, 0, 1), -4);
        x = Check.after("p;" + "d000;".repeat(11) + "d009;");
        Check.due("no room", x.bring(0, 2, 0, 2, 0), -4);
        Check.due("already", x.bring(0, 1, 50, 2, 0), 0);
        x = Check.after("p;" + "d000;".repeat(10) + "d009;");
        Check.due("room for one", x.bring(0, 2, 10, 2, 0), 1);
        Check.due("no room for two", x.bring(0, 2, 99, 2, 0), -4);
        x = Check.after("p;" + "d000;".repeat(9) + "d009;");
        Check.due("room for two", x.bring(0, 2, 99, 2, 0), 2);
        Check.due("room for two", x.bring(0, 2, 99, 2, 1), 4);
        Check.due("nothing stays", x.dishes(0), 10);
    }

    private static void bringRefuses() {
        ThirdOfTheLast x = Check.after("p;");
        Check.due("pot", x.bring(-1, 0, 0, 0, 0), -1);
        Check.due("pot", x.bring(1, 0, 0, 0, 0), -1);
        Check.due("taste", x.bring(0, -1, 0, 0, 0), -1);
        Check.due("taste", x.bring(0, 4, 0, 0, 0), -1);
        Check.due("p", x.bring(0, 0, -1, 0, 0), -1);
        Check.due("p", x.bring(0, 0, 101, 0, 0), -1);
        Check.due("figure", x.bring(0, 0, 0, -1, 0), -1);
        Check.due("figure", x.bring(0, 0, 0, 10, 0), -1);
        Check.due("what", x.bring(0, 0, 0, 0, -1), -1);
        Check.due("what", x.bring(0, 0, 0, 0, 2), -1);
    }
}
