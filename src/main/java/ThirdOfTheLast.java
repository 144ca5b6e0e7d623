/** Pots that keep a part of the taste of whatever was cooked in them last, and of that from before. */
public final class ThirdOfTheLast {

    private static final int NO_SUCH = -1;
    private static final int NO_ROOM = -2;
    private static final int NOT_NOW = -3;
    private static final int NONE = -4;
    private static final int NOTHING_HELD = -11;
    private static final int WRONG_HELD = -12;
    private static final int WRONG_PLACE = -13;
    private static final int BELOW_ZERO = -14;
    private static final int NO_FAILURE = -15;
    private static final int FAR_BELOW = -1000000000;

    private static final int MOST_POTS = 6;
    private static final int MOST_DISHES = 12;
    private static final int TASTES = 4;
    private static final int KINDS = 8;
    private static final int FIGURES = 10;
    private static final int MOST_BANS = 15;
    private static final int MOST_MORE = 3;
    private static final int MOST_WEEK = 5;
    private static final int MOST_PLAN = 8;

    private static final int SHELVES = 8;
    private static final int MOST_ELEMENTS = 100;
    private static final int BYTES = 0;
    private static final int SHORTS = 1;
    private static final int INTS = 2;

    private static final int DISH = 0;
    private static final int SOUP = 1;
    private static final int STEW = 2;
    private static final int FISH = 3;
    private static final int SCOUR = 4;
    private static final int BROTH = 5;
    private static final int POISON = 6;
    private static final int BLAND = 7;

    private final Kitchen now = new Kitchen();
    private final Kitchen tried = new Kitchen();
    private final Kitchen kept = new Kitchen();
    private boolean isKept;
    private final Mind mind = new Mind();
    private final Flavour trial = new Flavour();
    private final int[] portions = new int[MOST_POTS];
    private final Shelf[] shelves = new Shelf[SHELVES];

    public ThirdOfTheLast() {
        for (int i = 0; i < shelves.length; i++) {
            shelves[i] = new Shelf();
        }
    }

    // ---- kitchens

    public int kitchen(int d) {
        int refusal = bytesRefusal(d);
        if (refusal != 0) {
            return refusal;
        }
        Shelf text = shelves[d];
        int broken = Kitchen.brokenAt(text);
        if (broken >= 0) {
            return -1000 - broken;
        }
        tried.become(now);
        int statements = 0;
        int at = 0;
        while (at < text.size && statements < MOST_ELEMENTS) {
            if (!tried.carryOut(text, at)) {
                return -2000 - at;
            }
            at += 2 + Kitchen.digitsBehind(text.elementOr(at, NONE));
            statements++;
        }
        now.become(tried);
        return statements;
    }

    public int pot() {
        return now.addPot() ? now.size - 1 : NO_ROOM;
    }

    public int cook(int d, int pot) {
        if (!now.has(pot)) {
            return NO_SUCH;
        }
        int refusal = dishRefusal(d);
        if (refusal != 0) {
            return refusal;
        }
        Pot there = now.pots[pot];
        return there.cookIn(shelves[d].kind, shelves[d].figure) ? there.flavour.count : NO_ROOM;
    }

    public int dish(int pot, int i, int what) {
        // DISHES are counted from 0 on: a place below is out of range, one beyond the oldest is none such.
        if (!now.has(pot) || i < 0 || isNoHalf(what)) {
            return NO_SUCH;
        }
        Pot there = now.pots[pot];
        if (!there.hasDish(i)) {
            return NONE;
        }
        return what == 0 ? there.kindOf(i) : there.figureOf(i);
    }

    public int dishes(int pot) {
        return now.has(pot) ? now.pots[pot].flavour.count : NO_SUCH;
    }

    // ---- tastes

    public long taste(int pot, int taste, int part) {
        if (!now.has(pot) || isNoTaste(taste) || isNoHalf(part)) {
            return FAR_BELOW + NO_SUCH;
        }
        Flavour there = now.pots[pot].flavour;
        return inLeastTerms(there.above[taste], there.below, part);
    }

    public long all(int pot, int part) {
        if (!now.has(pot) || isNoHalf(part)) {
            return FAR_BELOW + NO_SUCH;
        }
        Flavour there = now.pots[pot].flavour;
        return inLeastTerms(there.totalAbove(), there.below, part);
    }

    public int portion(int pot, int taste) {
        if (!now.has(pot) || isNoTaste(taste)) {
            return NO_SUCH;
        }
        return now.pots[pot].flavour.portionOf(taste);
    }

    public int over(int pot, int taste, int p) {
        if (!now.has(pot) || isNoTaste(taste) || isNoPercent(p)) {
            return NO_SUCH;
        }
        return now.pots[pot].flavour.isOver(taste, p) ? 1 : 0;
    }

    public long part(int pot, int i, int part) {
        if (!now.has(pot) || isNoHalf(part) || !now.pots[pot].hasDish(i)) {
            return FAR_BELOW + NO_SUCH;
        }
        return inLeastTerms(now.pots[pot].leftAbove(i), powerOfNine(i), part);
    }

    public int back(int pot, int p) {
        if (!now.has(pot) || isNoHundredth(p)) {
            return NO_SUCH;
        }
        Pot there = now.pots[pot];
        int known = 0;
        while (known < there.flavour.count && 100 * there.leftAbove(known) >= p * powerOfNine(known)) {
            known++;
        }
        return known;
    }

    public int strongest(int pot) {
        return now.has(pot) ? now.pots[pot].flavour.mostTaste() : NO_SUCH;
    }

    public int harms(int pot, int bans, int p) {
        if (!now.has(pot) || isNoBans(bans) || isNoPercent(p)) {
            return NO_SUCH;
        }
        return now.pots[pot].flavour.isHarmful(bans, p) ? 1 : 0;
    }

    // ---- plans, weeks

    public int first(int d, int bans, int p) {
        if (isNoBans(bans) || isNoPercent(p)) {
            return NO_SUCH;
        }
        int refusal = bytesRefusal(d);
        if (refusal != 0) {
            return refusal;
        }
        Shelf plan = shelves[d];
        if (!isPlan(plan)) {
            return WRONG_PLACE;
        }
        mind.thinkOf(now, bans, p);
        return mind.firstHarm(plan);
    }

    public int week(int d, int bans, int p, int what) {
        if (isNoShelf(d) || isNoBans(bans) || isNoPercent(p) || isNoHalf(what)) {
            return NO_SUCH;
        }
        if (now.size == 0) {
            return NOT_NOW;
        }
        int refusal = bytesRefusal(d);
        if (refusal != 0) {
            return refusal;
        }
        Shelf row = shelves[d];
        if (!isRowOfDishes(row)) {
            return WRONG_PLACE;
        }
        mind.thinkOf(now, bans, p);
        mind.countWays(row);
        return what == 0 ? mind.ways : mind.firstWay;
    }

    public int bring(int pot, int taste, int p, int figure, int what) {
        if (!now.has(pot) || isNoTaste(taste) || isNoPercent(p) || isNoFigure(figure) || isNoHalf(what)) {
            return NO_SUCH;
        }
        Flavour from = now.pots[pot].flavour;
        for (int more = 0; more <= MOST_MORE && from.count + more <= MOST_DISHES; more++) {
            int code = firstBringing(from, taste, p, figure, more);
            if (code >= 0) {
                return what == 0 ? more : firstKind(code, more);
            }
        }
        return NONE;
    }

    /** The least code of KINDS by which the TASTE gets OVER p; NONE, if none does. */
    private int firstBringing(Flavour from, int taste, int p, int figure, int more) {
        int codes = codesOf(more);
        for (int code = 0; code < codes; code++) {
            trial.become(from);
            trial.takeCode(code, more, figure);
            if (trial.isOver(taste, p)) {
                return code;
            }
        }
        return NONE;
    }

    // ---- which dishes, which pot

    public int mayHave(int pot, int n, int figure, int what) {
        if (!now.has(pot) || n < 1 || n > MOST_MORE || isNoFigure(figure) || isNoHalf(what)) {
            return NO_SUCH;
        }
        Flavour wanted = now.pots[pot].flavour;
        int ways = 0;
        int firstWay = NONE;
        int codes = codesOf(n);
        for (int code = 0; code < codes; code++) {
            trial.clear();
            trial.takeCode(code, n, figure);
            if (trial.isLike(wanted)) {
                firstWay = ways == 0 ? digitsOf(code, n) : firstWay;
                ways++;
            }
        }
        return what == 0 ? ways : firstWay;
    }

    public int tells(int what) {
        if (isNoHalf(what)) {
            return NO_SUCH;
        }
        if (now.size == 0) {
            return NONE;
        }
        int best = 0;
        int least = mostAlike(0);
        for (int t = 1; t < TASTES; t++) {
            int alike = mostAlike(t);
            if (alike < least) {
                least = alike;
                best = t;
            }
        }
        return what == 0 ? best : least;
    }

    /** The greatest number of POTS with one PORTION of the TASTE. */
    private int mostAlike(int taste) {
        for (int i = 0; i < now.size; i++) {
            portions[i] = now.pots[i].flavour.portionOf(taste);
        }
        int most = 0;
        for (int i = 0; i < now.size; i++) {
            int alike = 0;
            for (int j = 0; j < now.size; j++) {
                alike += portions[j] == portions[i] ? 1 : 0;
            }
            most = Math.max(most, alike);
        }
        return most;
    }

    public int lent(int d, int pot) {
        if (!now.has(pot)) {
            return FAR_BELOW + NO_SUCH;
        }
        int refusal = dishRefusal(d);
        if (refusal != 0) {
            return FAR_BELOW + refusal;
        }
        int kind = shelves[d].kind;
        int figure = shelves[d].figure;
        int taste = figure % TASTES;
        trial.become(now.pots[pot].flavour);
        trial.takeIn(kind, figure);
        int there = trial.portionOf(taste);
        trial.clear();
        trial.takeIn(kind, figure);
        return there - trial.portionOf(taste);
    }

    public int gone(int kind, int figure, int p) {
        if (isNoKind(kind) || isNoFigure(figure) || isNoHundredth(p)) {
            return NO_SUCH;
        }
        long above = 1;
        long below = 1;
        int dishes = 0;
        // A STEW keeps most, two thirds: twelve of them leave less than a hundredth.
        while (dishes < MOST_DISHES && 100 * above >= p * below) {
            above *= keepsOf(kind);
            below *= 9;
            dishes++;
        }
        return dishes;
    }

    public int seeded(int n, int z, int taste) {
        if (n < 1 || n > MOST_DISHES || isNoTaste(taste)) {
            return NO_SUCH;
        }
        trial.clear();
        int seed = z;
        for (int i = 0; i < n; i++) {
            seed = nextSeed(seed);
            int kind = drawOf(seed) % KINDS;
            seed = nextSeed(seed);
            trial.takeIn(kind, drawOf(seed) % FIGURES);
        }
        return trial.portionOf(taste);
    }

    public int judge(int d) {
        int refusal = rowRefusal(d);
        if (refusal != 0) {
            return refusal;
        }
        Shelf row = shelves[d];
        int told = TASTES * now.size;
        int both = Math.min(told, row.size);
        int skipped = row.leastNumber();
        for (int i = 0; i < both; i++) {
            int element = row.elements[i];
            if (element != skipped && element != now.pots[i / TASTES].flavour.portionOf(i % TASTES)) {
                return i;
            }
        }
        return row.size == told ? NONE : both;
    }

    // ---- the image, what is told

    public int image() {
        kept.become(now);
        isKept = true;
        return now.size;
    }

    public int restore() {
        if (!isKept) {
            return NOT_NOW;
        }
        now.become(kept);
        return now.size;
    }

    public int count(int what) {
        if (what < 0 || what > 3) {
            return NO_SUCH;
        }
        if (what == 0) {
            return now.size;
        }
        int counted = 0;
        for (int i = 0; i < now.size; i++) {
            Pot there = now.pots[i];
            if (what == 1) {
                counted += there.flavour.count;
            } else if (what == 2) {
                counted += there.flavour.totalAbove() == 0 ? 1 : 0;
            } else {
                counted += there.howManyOf(SCOUR);
            }
        }
        return counted;
    }

    // ---- shelves

    public int keep(int d, int what, int k, int figure) {
        if (isNoShelf(d) || isNoHalf(what)) {
            return NO_SUCH;
        }
        if (what == 0) {
            shelves[d].holdNothing();
            return 0;
        }
        if (isNoKind(k) || isNoFigure(figure)) {
            return NO_SUCH;
        }
        shelves[d].holdDish(k, figure);
        return 0;
    }

    public int row(int d, int sort, int n) {
        if (isNoShelf(d) || sort < BYTES || sort > INTS || n > MOST_ELEMENTS) {
            return NO_SUCH;
        }
        if (n < 0) {
            return BELOW_ZERO;
        }
        shelves[d].holdRow(sort, n);
        return 0;
    }

    public int put(int d, int i, int v) {
        int refusal = rowRefusal(d);
        if (refusal != 0) {
            return refusal;
        }
        if (!shelves[d].hasElement(i)) {
            return WRONG_PLACE;
        }
        shelves[d].elements[i] = shelves[d].lowestBits(v);
        return 0;
    }

    public long element(int d, int i) throws IllegalArgumentException, IllegalStateException {
        if (isNoShelf(d)) {
            throw new IllegalArgumentException();
        }
        if (!shelves[d].holdsRow() || !shelves[d].hasElement(i)) {
            throw new IllegalStateException();
        }
        return shelves[d].elements[i];
    }

    public int copy(int d, int i, int e, int j, int n) {
        if (isNoShelf(d) || isNoShelf(e)) {
            return NO_SUCH;
        }
        Shelf from = shelves[d];
        Shelf to = shelves[e];
        if (from.holdsNothing() || to.holdsNothing()) {
            return NOTHING_HELD;
        }
        if (!from.holdsRow() || !to.holdsRow() || from.sort != to.sort) {
            return WRONG_HELD;
        }
        if (!from.hasElements(i, n) || !to.hasElements(j, n)) {
            return WRONG_PLACE;
        }
        System.arraycopy(from.elements, i, to.elements, j, n);
        return n;
    }

    public int price(int d) {
        int refusal = dishRefusal(d);
        return refusal != 0 ? refusal : priceOf(shelves[d].kind, shelves[d].figure);
    }

    public int toss(int d) {
        int refusal = dishRefusal(d);
        if (refusal != 0) {
            return refusal;
        }
        int kind = shelves[d].kind;
        int figure = shelves[d].figure;
        if (kind == SCOUR || figure == 0) {
            return NO_FAILURE;
        }
        if (kind == POISON) {
            return 200 + priceOf(kind, figure);
        }
        return kind == BROTH ? figure + 100 : figure;
    }

    // What is asked of numbers and shelves ahead of a call's answer.

    private static boolean isNoTaste(int taste) {
        return taste < 0 || taste >= TASTES;
    }

    private static boolean isNoKind(int kind) {
        return kind < 0 || kind >= KINDS;
    }

    private static boolean isNoFigure(int figure) {
        return figure < 0 || figure >= FIGURES;
    }

    private static boolean isNoHalf(int half) {
        return half < 0 || half > 1;
    }

    private static boolean isNoPercent(int p) {
        return p < 0 || p > 100;
    }

    private static boolean isNoHundredth(int p) {
        return p < 1 || p > 100;
    }

    private static boolean isNoBans(int bans) {
        return bans < 0 || bans > MOST_BANS;
    }

    private static boolean isNoShelf(int d) {
        return d < 0 || d >= SHELVES;
    }

    private int dishRefusal(int d) {
        if (isNoShelf(d)) {
            return NO_SUCH;
        }
        if (shelves[d].holdsNothing()) {
            return NOTHING_HELD;
        }
        return shelves[d].holdsRow() ? WRONG_HELD : 0;
    }

    private int rowRefusal(int d) {
        if (isNoShelf(d)) {
            return NO_SUCH;
        }
        if (shelves[d].holdsNothing()) {
            return NOTHING_HELD;
        }
        return shelves[d].holdsRow() ? 0 : WRONG_HELD;
    }

    private int bytesRefusal(int d) {
        int refusal = rowRefusal(d);
        if (refusal != 0) {
            return refusal;
        }
        return shelves[d].sort == BYTES ? 0 : WRONG_HELD;
    }

    private boolean isPlan(Shelf row) {
        if (row.size % 3 != 0 || row.size > 3 * MOST_PLAN) {
            return false;
        }
        for (int i = 0; i < row.size; i += 3) {
            if (!now.has(row.elementOr(i, NONE)) || !row.hasDishAt(i + 1)) {
                return false;
            }
        }
        return true;
    }

    private static boolean isRowOfDishes(Shelf row) {
        if (row.size % 2 != 0 || row.size > 2 * MOST_WEEK) {
            return false;
        }
        for (int i = 0; i < row.size; i += 2) {
            if (!row.hasDishAt(i)) {
                return false;
            }
        }
        return true;
    }

    // What the KINDS are.

    private static int ownOf(int kind, int figure, int taste) {
        int dish = figure % TASTES == taste ? figure + 1 : 0;
        int soup = dish + 1;
        int fish = taste == 2 ? dish + 3 : dish;
        switch (kind) {
            case DISH: return dish;
            case SOUP: return soup;
            case STEW: return 2 * dish;
            case FISH: return fish;
            case BROTH: return taste == 3 ? soup + 2 : soup;
            case POISON: return taste == 0 ? fish + 5 : fish;
            case BLAND: return soup - 1;
            default: return 0;
        }
    }

    private static int keepsOf(int kind) {
        int dish = 3;
        int soup = dish;
        int fish = dish - 1;
        switch (kind) {
            case DISH: return dish;
            case SOUP: return soup;
            case STEW: return dish + 3;
            case FISH: return fish;
            case BROTH: return soup + 1;
            case POISON: return fish;
            case BLAND: return 2 * soup;
            default: return 0;
        }
    }

    private static int priceOf(int kind, int figure) {
        int dish = 3;
        int soup = dish + figure;
        int fish = dish + 4;
        switch (kind) {
            case SOUP: return soup;
            case STEW: return 2 * dish;
            case FISH: return fish;
            case SCOUR: return dish - 2;
            case BROTH: return soup + 2;
            case POISON: return fish * (figure + 1);
            case BLAND: return soup - 1;
            default: return dish;
        }
    }

    // A code of n KINDS: three bits each, the first the highest, so that codes run as KINDS do.

    private static int codesOf(int n) {
        return 1 << (3 * n);
    }

    private static int kindIn(int code, int placesBehind) {
        return (code >> (3 * placesBehind)) & 7;
    }

    private static int firstKind(int code, int n) {
        return n == 0 ? NONE : kindIn(code, n - 1);
    }

    private static int digitsOf(int code, int n) {
        int digits = 0;
        for (int i = n - 1; i >= 0; i--) {
            digits = 10 * digits + kindIn(code, i);
        }
        return digits;
    }

    // Fractions, whose lower number is always a power of nine; and draws.

    private static long powerOfNine(int n) {
        long power = 1;
        for (int i = 0; i < n; i++) {
            power *= 9;
        }
        return power;
    }

    private static long inLeastTerms(long above, long below, int half) {
        long a = above;
        long b = below;
        // Below the line stands 3 to the power of 2 for each dish, and no other factor.
        for (int i = 0; i < 2 * MOST_DISHES && a % 3 == 0 && b % 3 == 0; i++) {
            a /= 3;
            b /= 3;
        }
        return half == 0 ? a : b;
    }

    private static int nextSeed(int z) {
        return z * 1103515245 + 12345;
    }

    private static int drawOf(int z) {
        return (z & 0x7fffffff) / 65536;
    }

    /** The four TASTES of a POT, over one lower number: 9 to the power of how many DISHES it has had. */
    private static final class Flavour {
        final long[] above = new long[TASTES];
        long below = 1;
        int count;

        void clear() {
            for (int t = 0; t < TASTES; t++) {
                above[t] = 0;
            }
            below = 1;
            count = 0;
        }

        void become(Flavour other) {
            for (int t = 0; t < TASTES; t++) {
                above[t] = other.above[t];
            }
            below = other.below;
            count = other.count;
        }

        boolean hasRoom() {
            return count < MOST_DISHES;
        }

        void takeIn(int kind, int figure) {
            int keeps = keepsOf(kind);
            below *= 9;
            for (int t = 0; t < TASTES; t++) {
                above[t] = ownOf(kind, figure, t) * below + keeps * above[t];
            }
            count++;
        }

        void takeCode(int code, int n, int figure) {
            for (int i = n - 1; i >= 0; i--) {
                takeIn(kindIn(code, i), figure);
            }
        }

        long totalAbove() {
            long total = 0;
            for (int t = 0; t < TASTES; t++) {
                total += above[t];
            }
            return total;
        }

        int portionOf(int taste) {
            long total = totalAbove();
            return total == 0 ? 0 : (int) (100 * above[taste] / total);
        }

        boolean isOver(int taste, int p) {
            return 100 * above[taste] > p * totalAbove();
        }

        boolean isHarmful(int bans, int p) {
            long line = p * totalAbove();
            for (int t = 0; t < TASTES; t++) {
                if ((bans >> t & 1) == 1 && 100 * above[t] > line) {
                    return true;
                }
            }
            return false;
        }

        int mostTaste() {
            int most = 0;
            for (int t = 1; t < TASTES; t++) {
                most = above[t] > above[most] ? t : most;
            }
            return above[most] == 0 ? NONE : most;
        }

        boolean isLike(Flavour other) {
            for (int t = 0; t < TASTES; t++) {
                if (above[t] * other.below != other.above[t] * below) {
                    return false;
                }
            }
            return true;
        }
    }

    /** A POT: its flavour, and its DISHES as they were cooked. */
    private static final class Pot {
        final Flavour flavour = new Flavour();
        final int[] kinds = new int[MOST_DISHES];
        final int[] figures = new int[MOST_DISHES];

        void become(Pot other) {
            flavour.become(other.flavour);
            System.arraycopy(other.kinds, 0, kinds, 0, MOST_DISHES);
            System.arraycopy(other.figures, 0, figures, 0, MOST_DISHES);
        }

        boolean cookIn(int kind, int figure) {
            if (!flavour.hasRoom()) {
                return false;
            }
            kinds[flavour.count] = kind;
            figures[flavour.count] = figure;
            flavour.takeIn(kind, figure);
            return true;
        }

        boolean hasDish(int i) {
            return i >= 0 && i < flavour.count;
        }

        int kindOf(int i) {
            return kinds[flavour.count - 1 - i];
        }

        int figureOf(int i) {
            return figures[flavour.count - 1 - i];
        }

        /** What stands above the line in the PART of the i-th DISH, over 9 to the power of i. */
        long leftAbove(int i) {
            long left = 1;
            for (int later = 0; later < i; later++) {
                left *= keepsOf(kindOf(later));
            }
            return left;
        }

        int howManyOf(int kind) {
            int found = 0;
            for (int i = 0; i < flavour.count; i++) {
                found += kinds[i] == kind ? 1 : 0;
            }
            return found;
        }
    }

    /** All POTS, and the reading of texts that change them. */
    private static final class Kitchen {
        final Pot[] pots = new Pot[MOST_POTS];
        int size;

        Kitchen() {
            for (int i = 0; i < pots.length; i++) {
                pots[i] = new Pot();
            }
        }

        boolean has(int pot) {
            return pot >= 0 && pot < size;
        }

        void become(Kitchen other) {
            size = other.size;
            for (int i = 0; i < size; i++) {
                pots[i].become(other.pots[i]);
            }
        }

        boolean addPot() {
            if (size >= MOST_POTS) {
                return false;
            }
            pots[size].flavour.clear();
            size++;
            return true;
        }

        /** How many digits a STATEMENT of this letter has; NONE, if it is no such letter. */
        static int digitsBehind(int letter) {
            switch (letter) {
                case 'p': return 0;
                case 'n': return 1;
                case 'c': return 2;
                case 'd': return 3;
                default: return NONE;
            }
        }

        /** The place where the text can't go on; NONE, if all of it is STATEMENTS. */
        static int brokenAt(Shelf text) {
            int at = 0;
            do {
                int digits = digitsBehind(text.elementOr(at, NONE));
                if (digits < 0) {
                    return at;
                }
                at++;
                for (int i = 0; i < digits; i++) {
                    if (isNoFigure(text.digitAt(at))) {
                        return at;
                    }
                    at++;
                }
                if (text.elementOr(at, NONE) != ';') {
                    return at;
                }
                at++;
            } while (at < text.size);
            return NONE;
        }

        /** Does the STATEMENT whose letter stands there; false, if it isn't as told. */
        boolean carryOut(Shelf text, int at) {
            int a = text.digitAt(at + 1);
            int b = text.digitAt(at + 2);
            switch (text.elementOr(at, NONE)) {
                case 'p': return addPot();
                case 'd': return cookIn(a, b, text.digitAt(at + 3));
                case 'n': return renew(a);
                case 'c': return makeAlike(a, b);
                default: return false;
            }
        }

        private boolean cookIn(int pot, int kind, int figure) {
            if (!has(pot) || isNoKind(kind) || isNoFigure(figure)) {
                return false;
            }
            return pots[pot].cookIn(kind, figure);
        }

        private boolean renew(int pot) {
            if (!has(pot)) {
                return false;
            }
            pots[pot].flavour.clear();
            return true;
        }

        private boolean makeAlike(int from, int to) {
            if (!has(from) || !has(to) || from == to) {
                return false;
            }
            pots[to].become(pots[from]);
            return true;
        }
    }

    /** The flavours of all POTS in mind, where dishes are tried of which nothing stays. */
    private static final class Mind {
        final Flavour[] pots = new Flavour[MOST_POTS];
        final Flavour[] before = new Flavour[MOST_WEEK];
        int size;
        int bans;
        int p;
        int ways;
        int firstWay;

        Mind() {
            for (int i = 0; i < pots.length; i++) {
                pots[i] = new Flavour();
            }
            for (int i = 0; i < before.length; i++) {
                before[i] = new Flavour();
            }
        }

        void thinkOf(Kitchen kitchen, int banned, int percent) {
            size = kitchen.size;
            bans = banned;
            p = percent;
            for (int i = 0; i < size; i++) {
                pots[i].become(kitchen.pots[i].flavour);
            }
        }

        int firstHarm(Shelf plan) {
            for (int i = 0; i + 2 < plan.size; i += 3) {
                int pot = plan.elements[i];
                if (pot < 0 || pot >= size || !staysGood(pots[pot], plan, i + 1)) {
                    return i / 3;
                }
            }
            return NONE;
        }

        void countWays(Shelf row) {
            ways = 0;
            firstWay = NONE;
            spread(this, row, 0, 0);
        }

        /** Counts the ways for the DISHES from this one on; the digits are the POTS of those ahead of it. */
        private static void spread(Mind mind, Shelf row, int dish, int digits) {
            if (2 * dish >= row.size) {
                mind.firstWay = mind.ways == 0 ? digits : mind.firstWay;
                mind.ways++;
                return;
            }
            if (dish >= mind.before.length) {
                return;
            }
            Flavour before = mind.before[dish];
            for (int i = 0; i < mind.size; i++) {
                Flavour pot = mind.pots[i];
                before.become(pot);
                if (mind.staysGood(pot, row, 2 * dish)) {
                    spread(mind, row, dish + 1, 10 * digits + i);
                }
                pot.become(before);
            }
        }

        /** Whether the DISH that stands there in the row has room, and does not harm once it is in. */
        private boolean staysGood(Flavour pot, Shelf row, int at) {
            if (!pot.hasRoom()) {
                return false;
            }
            pot.takeIn(row.elementOr(at, DISH), row.elementOr(at + 1, 0));
            return !pot.isHarmful(bans, p);
        }
    }

    /** A SHELF: nothing, a DISH, or a ROW. */
    private static final class Shelf {
        private static final int A_DISH = 1;
        private static final int A_ROW = 2;

        private int held;
        int kind;
        int figure;
        int sort;
        int size;
        final int[] elements = new int[MOST_ELEMENTS];

        void holdNothing() {
            held = 0;
        }

        void holdDish(int newKind, int newFigure) {
            held = A_DISH;
            kind = newKind;
            figure = newFigure;
        }

        void holdRow(int newSort, int newSize) {
            held = A_ROW;
            sort = newSort;
            size = newSize;
            for (int i = 0; i < elements.length; i++) {
                elements[i] = 0;
            }
        }

        boolean holdsNothing() {
            return held == 0;
        }

        boolean holdsRow() {
            return held == A_ROW;
        }

        boolean hasElement(int i) {
            return i >= 0 && i < size;
        }

        boolean hasElements(int from, int n) {
            return from >= 0 && from <= size && n >= 0 && n <= size - from;
        }

        int elementOr(int i, int otherwise) {
            return hasElement(i) ? elements[i] : otherwise;
        }

        int digitAt(int i) {
            return elementOr(i, '0' - 1) - '0';
        }

        boolean hasDishAt(int i) {
            return !isNoKind(elementOr(i, NONE)) && !isNoFigure(elementOr(i + 1, NONE));
        }

        int lowestBits(int v) {
            if (sort == BYTES) {
                return (byte) v;
            }
            return sort == SHORTS ? (short) v : v;
        }

        int leastNumber() {
            if (sort == BYTES) {
                return -128;
            }
            return sort == SHORTS ? -32768 : 0x80000000;
        }
    }
}
