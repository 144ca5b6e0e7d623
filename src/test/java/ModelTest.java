import java.util.Random;

/** Long runs of calls, told by fixed seeds, on the class and on the model: both must answer alike. */
final class ModelTest {
    private static final int RUNS = 2000;
    /** So many calls are promised of one object, and so many a step makes at most. */
    private static final int PROMISED = 512;
    private static final int OF_A_STEP = 112;
    private static final int[] WILD = {-2147483648, -2147483647, -129, -128, -2, -1, 4, 5, 8, 10, 12, 13, 15, 16, 99,
        100, 101, 255, 65536, 2147483646, 2147483647};

    private final Random draws;
    private final ThirdOfTheLast x = new ThirdOfTheLast();
    private final Model m = new Model();
    private final int wildness;
    private int calls;

    private ModelTest(int seed) {
        draws = new Random(seed);
        wildness = seed % 3 == 0 ? 5 : 60;
    }

    public static void main(String[] args) {
        for (int seed = 0; seed < RUNS; seed++) {
            ModelTest run = new ModelTest(seed);
            run.begin();
            while (run.calls <= PROMISED - OF_A_STEP) {
                run.step();
            }
            Check.isTrue("no more calls than are promised", run.calls <= PROMISED);
        }
        Check.end("ModelTest");
    }

    /** Mostly a number from least to most, now and then a wild one. */
    private int number(int least, int most) {
        if (draws.nextInt(wildness) == 0) {
            return draws.nextBoolean() ? WILD[draws.nextInt(WILD.length)] : draws.nextInt();
        }
        return least + draws.nextInt(most - least + 1);
    }

    private int pot() {
        return number(0, Math.max(0, m.count(0) - 1));
    }

    private int percent(int least) {
        return draws.nextInt(4) == 0 ? number(least, 100) : number(least, 60);
    }

    private void due(String name, long got, long want) {
        calls++;
        Check.due(name, got, want);
    }

    /** In some runs the pots are there from the start, and some of them nearly full. */
    private void begin() {
        int pots = draws.nextInt(3) == 0 ? draws.nextInt(7) : 0;
        for (int pot = 0; pot < pots; pot++) {
            due("pot", x.pot(), m.pot());
            int dishes = draws.nextBoolean() ? 8 + draws.nextInt(5) : draws.nextInt(3);
            for (int i = 0; i < dishes; i++) {
                int k = draws.nextInt(8);
                int f = draws.nextInt(10);
                due("keep", x.keep(0, 1, k, f), m.keep(0, 1, k, f));
                due("cook", x.cook(0, pot), m.cook(0, pot));
            }
        }
    }

    private void step() {
        switch (draws.nextInt(9)) {
            case 0: changePots(); break;
            case 1: changeShelves(); break;
            case 2: readKitchen(); break;
            case 3: askTastes(); break;
            case 4: askParts(); break;
            case 5: askPlans(); break;
            case 6: askWhich(); break;
            case 7: askShelves(); break;
            default: askJudge(); break;
        }
    }

    private void changePots() {
        int d = number(0, 7);
        int pot = pot();
        switch (draws.nextInt(8)) {
            case 0: due("pot", x.pot(), m.pot()); break;
            case 1: due("image", x.image(), m.image()); break;
            case 2: due("restore", x.restore(), m.restore()); break;
            default: due("cook " + d + " " + pot, x.cook(d, pot), m.cook(d, pot)); break;
        }
    }

    private void changeShelves() {
        int d = number(0, 7);
        int a = number(0, 2);
        int n = number(0, 30);
        int v = draws.nextInt(3) == 0 ? draws.nextInt() : number(0, 9);
        switch (draws.nextInt(6)) {
            case 0: due("row", x.row(d, a, n), m.row(d, a, n)); break;
            case 1: due("put", x.put(d, n, v), m.put(d, n, v)); break;
            default:
                int what = draws.nextInt(5) == 0 ? 0 : number(1, 1);
                int k = number(0, 7);
                int f = number(0, 9);
                due("keep", x.keep(d, what, k, f), m.keep(d, what, k, f));
                break;
        }
    }

    private void putRow(int d, int sort, int... elements) {
        due("row", x.row(d, sort, elements.length), m.row(d, sort, elements.length));
        for (int i = 0; i < elements.length; i++) {
            due("put", x.put(d, i, elements[i]), m.put(d, i, elements[i]));
        }
    }

    private void readKitchen() {
        StringBuilder text = new StringBuilder();
        int statements = draws.nextInt(12);
        for (int i = 0; i < statements; i++) {
            int pot = draws.nextInt(Math.min(6, m.count(0) + 2));
            switch (draws.nextInt(10)) {
                case 0: text.append("p"); break;
                case 1: text.append("n").append(pot); break;
                case 2: text.append("c").append(pot).append(draws.nextInt(Math.max(1, m.count(0)))); break;
                default: text.append("d").append(pot).append(draws.nextInt(40) == 0 ? 8 : draws.nextInt(8)).append(draws.nextInt(10)); break;
            }
            text.append(";");
        }
        if (draws.nextInt(5) == 0 && text.length() > 0) {
            text.setLength(draws.nextInt(text.length()));
        }
        if (draws.nextInt(6) == 0 && text.length() > 0) {
            text.setCharAt(draws.nextInt(text.length()), "pdnc;059/:x\u00ff".charAt(draws.nextInt(12)));
        }
        int[] signs = text.chars().limit(100).toArray();
        putRow(6, 0, signs);
        due("kitchen of " + text, x.kitchen(6), m.kitchen(6));
        int d = number(0, 7);
        due("kitchen " + d, x.kitchen(d), m.kitchen(d));
    }

    private void askTastes() {
        int pot = pot();
        int t = number(0, 3);
        int half = number(0, 1);
        int p = percent(0);
        int bans = number(0, 15);
        due("taste", x.taste(pot, t, half), m.taste(pot, t, half));
        due("all", x.all(pot, half), m.all(pot, half));
        due("portion", x.portion(pot, t), m.portion(pot, t));
        due("over", x.over(pot, t, p), m.over(pot, t, p));
        int sharp = m.portion(pot, t);
        due("over its portion", x.over(pot, t, sharp), m.over(pot, t, sharp));
        due("strongest", x.strongest(pot), m.strongest(pot));
        due("harms", x.harms(pot, bans, p), m.harms(pot, bans, p));
    }

    private void askParts() {
        int pot = pot();
        int i = number(0, 11);
        int half = number(0, 1);
        int p = percent(1);
        int what = number(0, 3);
        due("part", x.part(pot, i, half), m.part(pot, i, half));
        due("back", x.back(pot, p), m.back(pot, p));
        due("dish", x.dish(pot, i, half), m.dish(pot, i, half));
        due("dishes", x.dishes(pot), m.dishes(pot));
        due("count", x.count(what), m.count(what));
    }

    private void askPlans() {
        int bans = number(0, 15);
        int p = percent(0);
        int what = number(0, 1);
        int d = 5;
        switch (draws.nextInt(4)) {
            case 0: putRow(d, 0, plan(draws.nextInt(10))); break;
            case 1: putRow(d, 0, rowOfDishes(draws.nextInt(5))); break;
            case 2: putRow(d, 0, rowOfDishes(draws.nextInt(7))); break;
            default: d = number(0, 7); break;
        }
        due("first", x.first(d, bans, p), m.first(d, bans, p));
        due("week", x.week(d, bans, p, what), m.week(d, bans, p, what));
        if (draws.nextInt(8) == 0) {
            int pot = pot();
            int t = number(0, 3);
            int f = number(0, 9);
            due("bring", x.bring(pot, t, p, f, what), m.bring(pot, t, p, f, what));
        }
    }

    private int[] plan(int dishes) {
        int[] plan = new int[3 * dishes];
        for (int i = 0; i < dishes; i++) {
            plan[3 * i] = pot();
            plan[3 * i + 1] = number(0, 7);
            plan[3 * i + 2] = number(0, 9);
        }
        return plan;
    }

    private int[] rowOfDishes(int dishes) {
        int[] row = new int[2 * dishes];
        for (int i = 0; i < dishes; i++) {
            row[2 * i] = number(0, 7);
            row[2 * i + 1] = number(0, 9);
        }
        return row;
    }

    private void askWhich() {
        int pot = pot();
        int n = number(1, 2);
        int f = number(0, 9);
        int half = number(0, 1);
        int d = number(0, 7);
        int kind = number(0, 7);
        int p = percent(1);
        int z = draws.nextInt();
        due("mayHave", x.mayHave(pot, n, f, half), m.mayHave(pot, n, f, half));
        if (draws.nextInt(16) == 0) {
            due("mayHave 3", x.mayHave(pot, 3, f, half), m.mayHave(pot, 3, f, half));
        }
        due("tells", x.tells(half), m.tells(half));
        due("lent", x.lent(d, pot), m.lent(d, pot));
        due("gone", x.gone(kind, f, p), m.gone(kind, f, p));
        n = number(1, 12);
        int t = number(0, 3);
        due("seeded", x.seeded(n, z, t), m.seeded(n, z, t));
    }

    private void askShelves() {
        int d = number(0, 7);
        int e = draws.nextInt(3) == 0 ? d : number(0, 7);
        int i = number(0, 20);
        int j = number(0, 20);
        int n = number(0, 12);
        due("copy", x.copy(d, i, e, j, n), m.copy(d, i, e, j, n));
        due("price", x.price(d), m.price(d));
        due("toss", x.toss(d), m.toss(d));
        due("element", elementOf(d, i), m.element(d, i));
    }

    private long elementOf(int d, int i) {
        try {
            return x.element(d, i);
        } catch (IllegalArgumentException e) {
            return Model.ARGUMENT;
        } catch (IllegalStateException e) {
            return Model.STATE;
        }
    }

    private void askJudge() {
        int sort = draws.nextInt(3);
        int size = Math.max(0, 4 * m.count(0) + (draws.nextInt(3) == 0 ? draws.nextInt(5) - 2 : 0));
        int[] told = new int[size];
        for (int i = 0; i < size; i++) {
            told[i] = i < 4 * m.count(0) ? m.portion(i / 4, i % 4) : 0;
            if (draws.nextInt(9) == 0) {
                told[i] = sort == 0 ? -128 : sort == 1 ? -32768 : -2147483648;
            }
            if (draws.nextInt(40) == 0) {
                told[i] = number(-1, 100);
            }
        }
        putRow(4, sort, told);
        due("judge", x.judge(4), m.judge(4));
        int d = number(0, 7);
        due("judge " + d, x.judge(d), m.judge(d));
    }
}
