/** Promises 24 to 26: image, restore, count. */
final class ImageTest {
    public static void main(String[] args) {
        images();
        counts();
        Check.end("ImageTest");
    }

    private static void images() {
        ThirdOfTheLast x = new ThirdOfTheLast();
        Check.due("none yet", x.restore(), -3);
        Check.due("image of nothing", x.image(), 0);
        Check.due("pot", x.pot(), 0);
        Check.due("restored", x.restore(), 0);
        Check.due("count", x.count(0), 0);
        Check.read(x, "p;p;d053;d127;");
        x.keep(0, 1, 3, 4);
        Check.due("image", x.image(), 2);
        x.keep(0, 1, 2, 9);
        Check.read(x, "p;d000;n1;c02;");
        Check.due("restored", x.restore(), 2);
        Check.due("count", x.count(0), 2);
        Check.due("dishes", x.dishes(0), 1);
        Check.due("dish", x.dish(0, 0, 0), 5);
        Check.due("dish", x.dish(0, 0, 1), 3);
        Check.due("dish", x.dish(1, 0, 0), 2);
        Check.due("all", x.all(0, 0), 10);
        Check.due("all", x.all(1, 0), 16);
        Check.due("shelves stay", x.price(0), 6);
        Check.due("shelves stay", x.element(7, 0), 'p');
        x.cook(0, 1);
        Check.due("dishes", x.dishes(1), 2);
        Check.due("restored again", x.restore(), 2);
        Check.due("dishes", x.dishes(1), 1);
        x.cook(0, 1);
        Check.due("a newer image", x.image(), 2);
        Check.read(x, "n1;");
        x.restore();
        Check.due("dishes", x.dishes(1), 2);
    }

    private static void counts() {
        ThirdOfTheLast x = Check.after("p;p;p;p;d000;d040;d149;d100;d248;d245;");
        Check.due("pots", x.count(0), 4);
        Check.due("dishes", x.count(1), 6);
        Check.due("pots without tastes", x.count(2), 3);
        Check.due("scourings", x.count(3), 4);
        Check.read(x, "n2;");
        Check.due("dishes", x.count(1), 4);
        Check.due("pots without tastes", x.count(2), 3);
        Check.due("scourings", x.count(3), 2);
        Check.due("others", x.count(4), -1);
        Check.due("others", x.count(-1), -1);
    }
}
