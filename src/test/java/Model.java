import java.math.BigInteger;
import java.util.ArrayList;
import java.util.List;

/** The document once more, slowly: every pot is its list of dishes, every taste is reckoned anew from it. */
final class Model {
    private static final BigInteger HUNDRED = BigInteger.valueOf(100);
    private static final long FAR = 1000000000;
    static final long ARGUMENT = Long.MIN_VALUE;
    static final long STATE = Long.MIN_VALUE + 1;

    private List<List<int[]>> pots = new ArrayList<>();
    private List<List<int[]>> image = null;
    /** null, a dish as {kind, figure}, or a Row. */
    private final Object[] shelves = new Object[8];

    private static final class Row {
        int sort;
        int[] elements;
    }

    private static final class Fraction {
        final BigInteger above;
        final BigInteger below;

        Fraction(BigInteger a, BigInteger b) {
            BigInteger g = a.gcd(b);
            above = a.divide(g);
            below = b.divide(g);
        }

        Fraction(long a, long b) {
            this(BigInteger.valueOf(a), BigInteger.valueOf(b));
        }

        Fraction plus(Fraction o) {
            return new Fraction(above.multiply(o.below).add(o.above.multiply(below)), below.multiply(o.below));
        }

        Fraction times(Fraction o) {
            return new Fraction(above.multiply(o.above), below.multiply(o.below));
        }

        int compare(Fraction o) {
            return above.multiply(o.below).compareTo(o.above.multiply(below));
        }

        long half(int part) {
            return (part == 0 ? above : below).longValueExact();
        }
    }

    private static final Fraction NIL = new Fraction(0, 1);

    // ---- what the kinds are, each told by the one it is under

    private static int own(int kind, int figure, int t) {
        switch (kind) {
            case 0: return figure % 4 == t ? figure + 1 : 0;
            case 1: return own(0, figure, t) + 1;
            case 2: return own(0, figure, t) * 2;
            case 3: return own(0, figure, t) + (t == 2 ? 3 : 0);
            case 4: return 0;
            case 5: return own(1, figure, t) + (t == 3 ? 2 : 0);
            case 6: return own(3, figure, t) + (t == 0 ? 5 : 0);
            default: return own(1, figure, t) - 1;
        }
    }

    private static int keeps(int kind) {
        int[] under = {-1, 0, 0, 0, 0, 1, 3, 1};
        switch (kind) {
            case 0: return 3;
            case 2: return keeps(under[2]) + 3;
            case 3: return keeps(under[3]) - 1;
            case 4: return 0;
            case 5: return keeps(under[5]) + 1;
            case 7: return keeps(under[7]) * 2;
            default: return keeps(under[kind]);
        }
    }

    private static int priceOf(int kind, int figure) {
        switch (kind) {
            case 0: return 3;
            case 1: return priceOf(0, figure) + figure;
            case 2: return priceOf(0, figure) * 2;
            case 3: return priceOf(0, figure) + 4;
            case 4: return priceOf(0, figure) - 2;
            case 5: return priceOf(1, figure) + 2;
            case 6: return priceOf(3, figure) * (figure + 1);
            default: return priceOf(1, figure) - 1;
        }
    }

    private static Fraction tasteOf(List<int[]> pot, int t) {
        Fraction taste = NIL;
        for (int[] dish : pot) {
            taste = new Fraction(own(dish[0], dish[1], t), 1).plus(new Fraction(keeps(dish[0]), 9).times(taste));
        }
        return taste;
    }

    private static Fraction allOf(List<int[]> pot) {
        Fraction all = NIL;
        for (int t = 0; t < 4; t++) {
            all = all.plus(tasteOf(pot, t));
        }
        return all;
    }

    private static int portionOf(List<int[]> pot, int t) {
        Fraction all = allOf(pot);
        if (all.above.signum() == 0) {
            return 0;
        }
        Fraction taste = tasteOf(pot, t);
        return HUNDRED.multiply(taste.above).multiply(all.below).divide(taste.below.multiply(all.above)).intValueExact();
    }

    private static boolean isOver(List<int[]> pot, int t, int p) {
        return new Fraction(100, 1).times(tasteOf(pot, t)).compare(new Fraction(p, 1).times(allOf(pot))) > 0;
    }

    private static boolean isHarmful(List<int[]> pot, int bans, int p) {
        for (int t = 0; t < 4; t++) {
            if ((bans & (1 << t)) != 0 && isOver(pot, t, p)) {
                return true;
            }
        }
        return false;
    }

    private static Fraction partOf(List<int[]> pot, int i) {
        Fraction part = new Fraction(1, 1);
        for (int k = pot.size() - i; k < pot.size(); k++) {
            part = part.times(new Fraction(keeps(pot.get(k)[0]), 9));
        }
        return part;
    }

    private static List<int[]> with(List<int[]> pot, int kind, int figure) {
        List<int[]> more = new ArrayList<>(pot);
        more.add(new int[] {kind, figure});
        return more;
    }

    private static List<List<int[]>> copyOf(List<List<int[]>> all) {
        List<List<int[]>> copy = new ArrayList<>();
        for (List<int[]> pot : all) {
            copy.add(new ArrayList<>(pot));
        }
        return copy;
    }

    private static boolean out(int v, int least, int most) {
        return v < least || v > most;
    }

    private boolean noPot(int pot) {
        return out(pot, 0, pots.size() - 1);
    }

    // ---- kitchens

    int kitchen(int d) {
        int refused = bytes(d);
        if (refused != 0) {
            return refused;
        }
        StringBuilder text = new StringBuilder();
        for (int b : ((Row) shelves[d]).elements) {
            text.append((char) (b & 255));
        }
        int ahead = 0;
        List<String> statements = new ArrayList<>();
        List<Integer> places = new ArrayList<>();
        do {
            String rest = text.substring(ahead);
            java.util.regex.Matcher whole = java.util.regex.Pattern.compile("^(p|n[0-9]|c[0-9][0-9]|d[0-9][0-9][0-9]);").matcher(rest);
            if (!whole.find()) {
                java.util.regex.Matcher begun = java.util.regex.Pattern
                    .compile("^(p|n[0-9]|n|c[0-9][0-9]|c[0-9]|c|d[0-9][0-9][0-9]|d[0-9][0-9]|d[0-9]|d)").matcher(rest);
                return -1000 - ahead - (begun.find() ? begun.group().length() : 0);
            }
            statements.add(whole.group());
            places.add(ahead);
            ahead += whole.group().length();
        } while (ahead < text.length());
        List<List<int[]>> then = copyOf(pots);
        for (int i = 0; i < statements.size(); i++) {
            if (!carriedOut(then, statements.get(i))) {
                return -2000 - places.get(i);
            }
        }
        pots = then;
        return statements.size();
    }

    private static boolean carriedOut(List<List<int[]>> then, String s) {
        int a = s.charAt(1) - '0';
        if (s.charAt(0) == 'p') {
            then.add(new ArrayList<>());
            return then.size() <= 6;
        }
        if (a >= then.size()) {
            return false;
        }
        int b = s.charAt(2) - '0';
        switch (s.charAt(0)) {
            case 'n':
                then.get(a).clear();
                return true;
            case 'c':
                if (b >= then.size() || a == b) {
                    return false;
                }
                then.set(b, new ArrayList<>(then.get(a)));
                return true;
            default:
                if (b > 7) {
                    return false;
                }
                then.get(a).add(new int[] {b, s.charAt(3) - '0'});
                return then.get(a).size() <= 12;
        }
    }

    int pot() {
        if (pots.size() == 6) {
            return -2;
        }
        pots.add(new ArrayList<>());
        return pots.size() - 1;
    }

    int cook(int d, int pot) {
        if (out(d, 0, 7) || noPot(pot)) {
            return -1;
        }
        int refused = dishOn(d);
        if (refused != 0) {
            return refused;
        }
        if (pots.get(pot).size() == 12) {
            return -2;
        }
        int[] dish = (int[]) shelves[d];
        pots.get(pot).add(new int[] {dish[0], dish[1]});
        return pots.get(pot).size();
    }

    int dish(int pot, int i, int what) {
        if (noPot(pot) || i < 0 || out(what, 0, 1)) {
            return -1;
        }
        List<int[]> there = pots.get(pot);
        return i >= there.size() ? -4 : there.get(there.size() - 1 - i)[what];
    }

    int dishes(int pot) {
        return noPot(pot) ? -1 : pots.get(pot).size();
    }

    // ---- tastes

    long taste(int pot, int taste, int part) {
        return noPot(pot) || out(taste, 0, 3) || out(part, 0, 1) ? -1 - FAR : tasteOf(pots.get(pot), taste).half(part);
    }

    long all(int pot, int part) {
        return noPot(pot) || out(part, 0, 1) ? -1 - FAR : allOf(pots.get(pot)).half(part);
    }

    int portion(int pot, int taste) {
        return noPot(pot) || out(taste, 0, 3) ? -1 : portionOf(pots.get(pot), taste);
    }

    int over(int pot, int taste, int p) {
        return noPot(pot) || out(taste, 0, 3) || out(p, 0, 100) ? -1 : isOver(pots.get(pot), taste, p) ? 1 : 0;
    }

    long part(int pot, int i, int part) {
        if (noPot(pot) || out(part, 0, 1) || out(i, 0, pots.get(pot).size() - 1)) {
            return -1 - FAR;
        }
        return partOf(pots.get(pot), i).half(part);
    }

    int back(int pot, int p) {
        if (noPot(pot) || out(p, 1, 100)) {
            return -1;
        }
        List<int[]> there = pots.get(pot);
        for (int i = 0; i < there.size(); i++) {
            if (partOf(there, i).compare(new Fraction(p, 100)) < 0) {
                return i;
            }
        }
        return there.size();
    }

    int strongest(int pot) {
        if (noPot(pot)) {
            return -1;
        }
        int best = -4;
        Fraction most = NIL;
        for (int t = 0; t < 4; t++) {
            if (tasteOf(pots.get(pot), t).compare(most) > 0) {
                most = tasteOf(pots.get(pot), t);
                best = t;
            }
        }
        return best;
    }

    int harms(int pot, int bans, int p) {
        return noPot(pot) || out(bans, 0, 15) || out(p, 0, 100) ? -1 : isHarmful(pots.get(pot), bans, p) ? 1 : 0;
    }

    // ---- plans, weeks

    int first(int d, int bans, int p) {
        if (out(d, 0, 7) || out(bans, 0, 15) || out(p, 0, 100)) {
            return -1;
        }
        int refused = bytes(d);
        if (refused != 0) {
            return refused;
        }
        int[] plan = ((Row) shelves[d]).elements;
        if (plan.length % 3 != 0 || plan.length / 3 > 8) {
            return -13;
        }
        for (int i = 0; i < plan.length; i += 3) {
            if (noPot(plan[i]) || out(plan[i + 1], 0, 7) || out(plan[i + 2], 0, 9)) {
                return -13;
            }
        }
        List<List<int[]>> then = copyOf(pots);
        for (int i = 0; i < plan.length; i += 3) {
            List<int[]> there = then.get(plan[i]);
            there.add(new int[] {plan[i + 1], plan[i + 2]});
            if (there.size() > 12 || isHarmful(there, bans, p)) {
                return i / 3;
            }
        }
        return -4;
    }

    int week(int d, int bans, int p, int what) {
        if (out(d, 0, 7) || out(bans, 0, 15) || out(p, 0, 100) || out(what, 0, 1)) {
            return -1;
        }
        if (pots.isEmpty()) {
            return -3;
        }
        int refused = bytes(d);
        if (refused != 0) {
            return refused;
        }
        int[] row = ((Row) shelves[d]).elements;
        if (row.length % 2 != 0 || row.length / 2 > 5) {
            return -13;
        }
        for (int i = 0; i < row.length; i += 2) {
            if (out(row[i], 0, 7) || out(row[i + 1], 0, 9)) {
                return -13;
            }
        }
        // A pot's dishes of the week decide alone whether it harms: so each pot's choices are tried once.
        int n = row.length / 2;
        boolean[][] good = new boolean[pots.size()][1 << n];
        for (int pot = 0; pot < pots.size(); pot++) {
            for (int chosen = 0; chosen < 1 << n; chosen++) {
                good[pot][chosen] = bears(pots.get(pot), row, chosen, bans, p);
            }
        }
        int ways = 0;
        int firstWay = -4;
        int choices = 1;
        for (int i = 0; i < n; i++) {
            choices *= pots.size();
        }
        for (int choice = 0; choice < choices; choice++) {
            int[] chosen = new int[pots.size()];
            int number = 0;
            int weight = 1;
            int rest = choice;
            for (int i = n - 1; i >= 0; i--) {
                int pot = rest % pots.size();
                rest /= pots.size();
                chosen[pot] |= 1 << i;
                number += weight * pot;
                weight *= 10;
            }
            boolean all = true;
            for (int pot = 0; pot < pots.size(); pot++) {
                all &= good[pot][chosen[pot]];
            }
            if (all && ways++ == 0) {
                firstWay = number;
            }
        }
        return what == 0 ? ways : firstWay;
    }

    private static boolean bears(List<int[]> pot, int[] row, int chosen, int bans, int p) {
        List<int[]> then = pot;
        for (int i = 0; i < row.length / 2; i++) {
            if ((chosen & (1 << i)) != 0) {
                then = with(then, row[2 * i], row[2 * i + 1]);
                if (then.size() > 12 || isHarmful(then, bans, p)) {
                    return false;
                }
            }
        }
        return true;
    }

    int bring(int pot, int taste, int p, int figure, int what) {
        if (noPot(pot) || out(taste, 0, 3) || out(p, 0, 100) || out(figure, 0, 9) || out(what, 0, 1)) {
            return -1;
        }
        for (int n = 0; n <= 3; n++) {
            for (List<int[]> then : allWith(pots.get(pot), figure, n)) {
                if (then.size() <= 12 && isOver(then, taste, p)) {
                    return what == 0 ? n : n == 0 ? -4 : then.get(then.size() - n)[0];
                }
            }
        }
        return -4;
    }

    /** The pot with n dishes more, in every way, as their kinds run. */
    private static List<List<int[]>> allWith(List<int[]> pot, int figure, int n) {
        List<List<int[]>> found = new ArrayList<>();
        found.add(pot);
        for (int i = 0; i < n; i++) {
            List<List<int[]>> longer = new ArrayList<>();
            for (List<int[]> one : found) {
                for (int kind = 0; kind < 8; kind++) {
                    longer.add(with(one, kind, figure));
                }
            }
            found = longer;
        }
        return found;
    }

    // ---- which dishes, which pot

    int mayHave(int pot, int n, int figure, int what) {
        if (noPot(pot) || out(n, 1, 3) || out(figure, 0, 9) || out(what, 0, 1)) {
            return -1;
        }
        int ways = 0;
        int firstWay = -4;
        for (List<int[]> then : allWith(new ArrayList<>(), figure, n)) {
            boolean same = true;
            for (int t = 0; t < 4; t++) {
                same &= tasteOf(then, t).compare(tasteOf(pots.get(pot), t)) == 0;
            }
            if (same && ways++ == 0) {
                firstWay = 0;
                for (int[] dish : then) {
                    firstWay = 10 * firstWay + dish[0];
                }
            }
        }
        return what == 0 ? ways : firstWay;
    }

    int tells(int what) {
        if (out(what, 0, 1)) {
            return -1;
        }
        if (pots.isEmpty()) {
            return -4;
        }
        int best = -1;
        int least = Integer.MAX_VALUE;
        for (int t = 0; t < 4; t++) {
            int[] withPortion = new int[101];
            int most = 0;
            for (List<int[]> pot : pots) {
                most = Math.max(most, ++withPortion[portionOf(pot, t)]);
            }
            if (most < least) {
                least = most;
                best = t;
            }
        }
        return what == 0 ? best : least;
    }

    int lent(int d, int pot) {
        if (out(d, 0, 7) || noPot(pot)) {
            return (int) (-1 - FAR);
        }
        int refused = dishOn(d);
        if (refused != 0) {
            return (int) (refused - FAR);
        }
        int[] dish = (int[]) shelves[d];
        return portionOf(with(pots.get(pot), dish[0], dish[1]), dish[1] % 4)
            - portionOf(with(new ArrayList<>(), dish[0], dish[1]), dish[1] % 4);
    }

    int gone(int kind, int figure, int p) {
        if (out(kind, 0, 7) || out(figure, 0, 9) || out(p, 1, 100)) {
            return -1;
        }
        Fraction left = new Fraction(1, 1);
        int n = 0;
        while (left.compare(new Fraction(p, 100)) >= 0) {
            left = left.times(new Fraction(keeps(kind), 9));
            n++;
        }
        return n;
    }

    int seeded(int n, int z, int taste) {
        if (out(n, 1, 12) || out(taste, 0, 3)) {
            return -1;
        }
        List<int[]> pot = new ArrayList<>();
        int[] draws = new int[2 * n];
        long seed = z;
        for (int i = 0; i < 2 * n; i++) {
            seed = (seed * 1103515245L + 12345L) & 0xffffffffL;
            draws[i] = (int) ((seed & 0x7fffffffL) >> 16);
        }
        for (int i = 0; i < n; i++) {
            pot.add(new int[] {draws[2 * i] % 8, draws[2 * i + 1] % 10});
        }
        return portionOf(pot, taste);
    }

    int judge(int d) {
        int refused = rowOn(d);
        if (refused != 0) {
            return refused;
        }
        Row row = (Row) shelves[d];
        int skip = row.sort == 0 ? Byte.MIN_VALUE : row.sort == 1 ? Short.MIN_VALUE : Integer.MIN_VALUE;
        List<Integer> portions = new ArrayList<>();
        for (List<int[]> pot : pots) {
            for (int t = 0; t < 4; t++) {
                portions.add(portionOf(pot, t));
            }
        }
        for (int i = 0; i < Math.max(portions.size(), row.elements.length); i++) {
            if (i == row.elements.length || i == portions.size()) {
                return i;
            }
            if (row.elements[i] != skip && row.elements[i] != portions.get(i)) {
                return i;
            }
        }
        return -4;
    }

    // ---- the image, what is told

    int image() {
        image = copyOf(pots);
        return pots.size();
    }

    int restore() {
        if (image == null) {
            return -3;
        }
        pots = copyOf(image);
        return pots.size();
    }

    int count(int what) {
        int dishes = 0;
        int empty = 0;
        int scourings = 0;
        for (List<int[]> pot : pots) {
            dishes += pot.size();
            empty += allOf(pot).above.signum() == 0 ? 1 : 0;
            for (int[] dish : pot) {
                scourings += dish[0] == 4 ? 1 : 0;
            }
        }
        return out(what, 0, 3) ? -1 : new int[] {pots.size(), dishes, empty, scourings}[what];
    }

    // ---- shelves

    private int dishOn(int d) {
        return out(d, 0, 7) ? -1 : shelves[d] == null ? -11 : shelves[d] instanceof Row ? -12 : 0;
    }

    private int rowOn(int d) {
        return out(d, 0, 7) ? -1 : shelves[d] == null ? -11 : shelves[d] instanceof Row ? 0 : -12;
    }

    private int bytes(int d) {
        int refused = rowOn(d);
        return refused != 0 ? refused : ((Row) shelves[d]).sort == 0 ? 0 : -12;
    }

    int keep(int d, int what, int k, int figure) {
        if (out(d, 0, 7) || out(what, 0, 1) || what == 1 && (out(k, 0, 7) || out(figure, 0, 9))) {
            return -1;
        }
        shelves[d] = what == 0 ? null : new int[] {k, figure};
        return 0;
    }

    int row(int d, int sort, int n) {
        if (out(d, 0, 7) || out(sort, 0, 2) || n > 100) {
            return -1;
        }
        if (n < 0) {
            return -14;
        }
        Row row = new Row();
        row.sort = sort;
        row.elements = new int[n];
        shelves[d] = row;
        return 0;
    }

    int put(int d, int i, int v) {
        int refused = rowOn(d);
        if (refused != 0) {
            return refused;
        }
        Row row = (Row) shelves[d];
        if (out(i, 0, row.elements.length - 1)) {
            return -13;
        }
        row.elements[i] = row.sort == 0 ? (byte) v : row.sort == 1 ? (short) v : v;
        return 0;
    }

    long element(int d, int i) {
        if (out(d, 0, 7)) {
            return ARGUMENT;
        }
        if (rowOn(d) != 0 || out(i, 0, ((Row) shelves[d]).elements.length - 1)) {
            return STATE;
        }
        return ((Row) shelves[d]).elements[i];
    }

    int copy(int d, int i, int e, int j, int n) {
        if (out(d, 0, 7) || out(e, 0, 7)) {
            return -1;
        }
        if (shelves[d] == null || shelves[e] == null) {
            return -11;
        }
        if (rowOn(d) != 0 || rowOn(e) != 0 || ((Row) shelves[d]).sort != ((Row) shelves[e]).sort) {
            return -12;
        }
        int[] from = ((Row) shelves[d]).elements;
        int[] to = ((Row) shelves[e]).elements;
        if (i < 0 || j < 0 || n < 0 || (long) i + n > from.length || (long) j + n > to.length) {
            return -13;
        }
        int[] carried = from.clone();
        for (int k = 0; k < n; k++) {
            to[j + k] = carried[i + k];
        }
        return n;
    }

    int price(int d) {
        int refused = dishOn(d);
        return refused != 0 ? refused : priceOf(((int[]) shelves[d])[0], ((int[]) shelves[d])[1]);
    }

    int toss(int d) {
        int refused = dishOn(d);
        if (refused != 0) {
            return refused;
        }
        int[] dish = (int[]) shelves[d];
        if (dish[0] == 4 || dish[1] == 0) {
            return -15;
        }
        return dish[0] == 6 ? 200 + priceOf(6, dish[1]) : dish[0] == 5 ? 100 + dish[1] : dish[1];
    }
}
