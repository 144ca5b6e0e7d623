/** The object that the tests of ranges and refusals begin with. */
final class Begun {
    private Begun() {
    }

    /**
     * Pot 0 is new, pot 1 has three dishes, pot 2 is full; the image is older, with two pots and two dishes.
     * Shelves: 0 nothing, 1 a dish, 2 bytes that are a plan, 3 bytes that are a row of dishes, 4 shorts that are
     * neither, 5 ints and no element, 6 a text that makes pot 1 new.
     */
    static Used object() {
        Used x = Used.withPots("", "57");
        x.cook(1, 1, 4, 3);
        x.due("image", 2);
        x.cook(1, 1, 6, 2);
        x.due("pot", 2);
        x.cook(2, 12, 2, 9);
        x.due("keep 1 1 5 7", 0);
        x.shelve(2, 0, 1, 7, 9);
        x.shelve(3, 0, 7, 9);
        x.shelve(4, 1, 1, 7, 9, 10);
        x.shelve(5, 2);
        x.write(6, "n1;");
        return x;
    }

    /** The same shelves, without pots and without an image. */
    static Used withoutPots() {
        Used x = new Used();
        x.due("keep 1 1 5 7", 0);
        x.shelve(2, 0, 1, 7, 9);
        x.shelve(3, 0, 7, 9);
        x.shelve(4, 1, 1, 7, 9, 10);
        x.shelve(5, 2);
        x.write(6, "n1;");
        return x;
    }
}
