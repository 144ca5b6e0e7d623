/** Promises 1 to 6: a new object, kitchen, pot, cook, dish, dishes. */
final class KitchensTest {
    public static void main(String[] args) {
        newObject();
        kitchenReads();
        kitchenBreaks();
        kitchenCannotBeDone();
        kitchenRefuses();
        pots();
        cooks();
        tellsDishes();
        Check.end("KitchensTest");
    }

    private static void newObject() {
        ThirdOfTheLast x = new ThirdOfTheLast();
        for (int what = 0; what < 4; what++) {
            Check.due("count " + what, x.count(what), 0);
        }
        for (int d = 0; d < 8; d++) {
            Check.due("price of nothing", x.price(d), -11);
        }
        Check.due("dishes(0)", x.dishes(0), -1);
        Check.due("restore()", x.restore(), -3);
    }

    private static void kitchenReads() {
        ThirdOfTheLast x = new ThirdOfTheLast();
        Check.due("p;", Check.read(x, "p;"), 1);
        Check.due("p;d012;d145;", Check.read(x, "p;d012;d145;"), 3);
        Check.due("count(0)", x.count(0), 2);
        Check.due("dish", x.dish(0, 0, 0), 1);
        Check.due("dish", x.dish(0, 0, 1), 2);
        Check.due("dish", x.dish(1, 0, 0), 4);
        Check.due("dish", x.dish(1, 0, 1), 5);
        Check.due("c10;", Check.read(x, "c10;"), 1);
        Check.due("dish", x.dish(0, 0, 0), 4);
        Check.due("dishes", x.dishes(0), 1);
        Check.due("the copy is its own", Check.read(x, "d103;"), 1);
        Check.due("dishes(0)", x.dishes(0), 1);
        Check.due("dishes(1)", x.dishes(1), 2);
        Check.due("n1;d109;", Check.read(x, "n1;d109;"), 2);
        Check.due("dishes(1)", x.dishes(1), 1);
        Check.due("taste(1, 1, 0)", x.taste(1, 1, 0), 10);
        Check.due("taste(1, 1, 1)", x.taste(1, 1, 1), 1);
        Check.due("the text stays", x.element(7, 0), 'n');
        Check.due("again", x.kitchen(7), 2);
        Check.due("33 statements", Check.read(x, "n0;".repeat(33)), 33);
    }

    private static void kitchenBreaks() {
        ThirdOfTheLast x = new ThirdOfTheLast();
        Check.due("no statement", Check.read(x, ""), -1000);
        Check.due("no letter", Check.read(x, "q;"), -1000);
        Check.due("a letter of the other case", Check.read(x, "P;"), -1000);
        Check.due("too early", Check.read(x, "p"), -1001);
        Check.due("no ;", Check.read(x, "pp"), -1001);
        Check.due("; alone", Check.read(x, "p;;"), -1002);
        Check.due("too early", Check.read(x, "p;d"), -1003);
        Check.due("too early", Check.read(x, "p;d00"), -1005);
        Check.due("too early", Check.read(x, "p;d000"), -1006);
        Check.due("a sign below 0", Check.read(x, "p;d00/"), -1005);
        Check.due("a sign above 9", Check.read(x, "p;d0:0;"), -1004);
        Check.due("a digit more", Check.read(x, "p;n00;"), -1004);
        Check.due("a digit less", Check.read(x, "p;c0;"), -1004);
        Check.due("a letter more", Check.read(x, "p;p0;"), -1003);
        Check.due("kind 1 ahead of kind 2", Check.read(x, "d999;x"), -1005);
        Check.due("a byte below 0", Check.read(x, "p;\u00f0"), -1002);
        Check.due("nothing came", x.count(0), 0);
    }

    private static void kitchenCannotBeDone() {
        ThirdOfTheLast x = new ThirdOfTheLast();
        Check.due("no such pot", Check.read(x, "p;p;d200;"), -2004);
        Check.due("no such pot", Check.read(x, "p;n1;"), -2002);
        Check.due("no such pot", Check.read(x, "p;c01;"), -2002);
        Check.due("no such pot", Check.read(x, "p;c10;"), -2002);
        Check.due("a pot above all", Check.read(x, "p;n9;"), -2002);
        Check.due("one twice", Check.read(x, "p;p;c11;"), -2004);
        Check.due("a kind out of range", Check.read(x, "p;d080;"), -2002);
        Check.due("the greatest numbers", Check.read(x, "p;d079;"), 2);
        Check.due("the first is told", Check.read(x, "d090;d200;"), -2000);
        Check.due("no room for a pot", Check.read(x, "p;p;p;p;p;p;"), -2010);
        Check.due("count(0)", x.count(0), 1);
        Check.due("dishes(0)", x.dishes(0), 1);
        Check.due("no room for a dish", Check.read(x, "d000;".repeat(12)), -2055);
        Check.due("dishes(0)", x.dishes(0), 1);
        Check.due("room for eleven", Check.read(x, "d000;".repeat(11)), 11);
        Check.due("dishes(0)", x.dishes(0), 12);
        Check.due("new, so room", Check.read(x, "n0;" + "d000;".repeat(12) + "p;c01;"), 15);
        Check.due("a copy is full too", Check.read(x, "d100;"), -2000);
    }

    private static void kitchenRefuses() {
        ThirdOfTheLast x = new ThirdOfTheLast();
        Check.due("kitchen(-1)", x.kitchen(-1), -1);
        Check.due("kitchen(8)", x.kitchen(8), -1);
        Check.due("kitchen(0)", x.kitchen(0), -11);
        x.keep(0, 1, 0, 0);
        Check.due("of a dish", x.kitchen(0), -12);
        Check.shelve(x, 0, 1, 'p', ';');
        Check.due("of shorts", x.kitchen(0), -12);
        Check.shelve(x, 0, 2, 'p', ';');
        Check.due("of ints", x.kitchen(0), -12);
    }

    private static void pots() {
        ThirdOfTheLast x = new ThirdOfTheLast();
        for (int i = 0; i < 6; i++) {
            Check.due("pot()", x.pot(), i);
            Check.due("dishes", x.dishes(i), 0);
            Check.due("all", x.all(i, 0), 0);
        }
        Check.due("pot()", x.pot(), -2);
        Check.due("count(0)", x.count(0), 6);
        x = Check.after("p;p;d163;");
        x.image();
        ThirdOfTheLast y = new ThirdOfTheLast();
        y.image();
        Check.read(y, "p;d079;");
        y.restore();
        Check.due("a pot where one was", y.pot(), 0);
        Check.due("it is new", y.dishes(0), 0);
        Check.due("it is new", y.all(0, 0), 0);
        Check.due("it is new", y.all(0, 1), 1);
    }

    private static void cooks() {
        ThirdOfTheLast x = new ThirdOfTheLast();
        x.keep(2, 1, 5, 7);
        Check.due("no pot", x.cook(2, 0), -1);
        x.pot();
        Check.due("pot -1", x.cook(2, -1), -1);
        Check.due("pot 1", x.cook(2, 1), -1);
        Check.due("shelf -1", x.cook(-1, 0), -1);
        Check.due("shelf 8", x.cook(8, 0), -1);
        Check.due("nothing", x.cook(3, 0), -11);
        Check.due("no pot goes ahead", x.cook(3, 1), -1);
        x.row(3, 0, 2);
        Check.due("a row", x.cook(3, 0), -12);
        for (int i = 1; i <= 12; i++) {
            Check.due("cook", x.cook(2, 0), i);
        }
        long before = x.all(0, 0);
        Check.due("cook", x.cook(2, 0), -2);
        Check.due("all", x.all(0, 0), before);
        Check.due("the dish stays on its shelf", x.price(2), 12);
        Check.due("a row goes ahead of no room", x.cook(3, 0), -12);
    }

    private static void tellsDishes() {
        ThirdOfTheLast x = Check.after("p;p;d017;d025;");
        Check.due("latest", x.dish(0, 0, 0), 2);
        Check.due("latest", x.dish(0, 0, 1), 5);
        Check.due("oldest", x.dish(0, 1, 0), 1);
        Check.due("oldest", x.dish(0, 1, 1), 7);
        Check.due("none such", x.dish(0, 2, 0), -4);
        Check.due("none such", x.dish(0, 2147483647, 1), -4);
        Check.due("none such, beyond twelve", x.dish(0, 12, 0), -4);
        Check.due("none at all", x.dish(1, 0, 0), -4);
        Check.due("a place below 0", x.dish(0, -1, 0), -1);
        Check.due("a place below 0", x.dish(0, -1, 1), -1);
        Check.due("a place below 0", x.dish(0, -2147483648, 0), -1);
        Check.due("a place below 0, none at all", x.dish(1, -1, 0), -1);
        Check.due("no pot, none such", x.dish(2, 99, 0), -1);
        Check.due("what, none such", x.dish(0, 99, 2), -1);
        Check.due("pot", x.dish(2, 0, 0), -1);
        Check.due("pot", x.dish(-1, 0, 0), -1);
        Check.due("what", x.dish(0, 0, 2), -1);
        Check.due("what", x.dish(0, 0, -1), -1);
        Check.due("dishes(0)", x.dishes(0), 2);
        Check.due("dishes(1)", x.dishes(1), 0);
        Check.due("dishes(2)", x.dishes(2), -1);
        Check.due("dishes(-1)", x.dishes(-1), -1);
    }
}
