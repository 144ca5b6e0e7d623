/** Every number of every call, at the ends of its range and just beyond them; a refused call changes nothing. */
final class RangesTest {
    private static final long FAR = -1000000001L;
    private static final long LEAST = Integer.MIN_VALUE;
    private static final long MOST = Integer.MAX_VALUE;

    private static String begun;

    public static void main(String[] args) {
        begun = Begun.object().state();
        kitchens();
        tastes();
        plans();
        which();
        shelves();
        potsAsTheyCome();
        Check.end("RangesTest");
    }

    private static void kitchens() {
        ranges("kitchen", -1, "6:0..7");
        ranges("cook", -1, "1:0..7", "0:0..2");
        ranges("dish", -1, "1:0..2", "0:0..*", "0:0..1");
        ranges("dish", -4, "1:*..*", "0:*..2", "0:*..*");
        ranges("dishes", -1, "1:0..2");
    }

    private static void tastes() {
        ranges("taste", FAR, "1:0..2", "0:0..3", "0:0..1");
        ranges("all", FAR, "1:0..2", "0:0..1");
        ranges("portion", -1, "1:0..2", "0:0..3");
        ranges("over", -1, "1:0..2", "0:0..3", "50:0..100");
        ranges("part", FAR, "1:1..2", "0:0..2", "0:0..1");
        ranges("back", -1, "1:0..2", "50:1..100");
        ranges("strongest", -1, "1:0..2");
        ranges("harms", -1, "1:0..2", "5:0..15", "50:0..100");
    }

    private static void plans() {
        ranges("first", -1, "2:0..7", "5:0..15", "50:0..100");
        ranges("week", -1, "3:0..7", "5:0..15", "50:0..100", "0:0..1");
        ranges("bring", -1, "1:0..2", "0:0..3", "50:0..100", "5:0..9", "0:0..1");
    }

    private static void which() {
        ranges("mayHave", -1, "1:0..2", "2:1..3", "5:0..9", "0:0..1");
        ranges("tells", -1, "0:0..1");
        ranges("lent", FAR, "1:0..7", "1:0..2");
        ranges("gone", -1, "3:0..7", "5:0..9", "50:1..100");
        ranges("seeded", -1, "5:1..12", "5:*..*", "2:0..3");
        ranges("judge", -1, "4:0..7");
        ranges("count", -1, "0:0..3");
    }

    private static void shelves() {
        ranges("keep", -1, "1:0..7", "1:0..1", "3:0..7", "5:0..9");
        ranges("keep", -1, "1:0..7", "0:0..1", "3:*..*", "5:*..*");
        ranges("row", -1, "1:0..7", "0:0..2", "3:*..100");
        ranges("row", -14, "1:*..*", "0:*..*", "3:0..*");
        ranges("put", -1, "2:0..7", "0:*..*", "3:*..*");
        ranges("put", -13, "2:*..*", "0:0..2", "3:*..*");
        ranges("element", Model.ARGUMENT, "2:0..7", "0:*..*");
        ranges("element", Model.STATE, "2:*..*", "0:0..2");
        ranges("copy", -1, "2:0..7", "0:*..*", "3:0..7", "0:*..*", "1:*..*");
        ranges("copy", -13, "2:*..*", "0:0..2", "3:*..*", "0:0..1", "1:0..2");
        ranges("price", -1, "1:0..7");
        ranges("toss", -1, "1:0..7");
    }

    /** Each number is told as the one that is taken while others are tried, its least and its greatest. */
    private static void ranges(String name, long refusal, String... numbers) {
        for (int i = 0; i < numbers.length; i++) {
            String range = numbers[i].substring(numbers[i].indexOf(':') + 1);
            String least = range.substring(0, range.indexOf('.'));
            String most = range.substring(range.lastIndexOf('.') + 1);
            if (!least.equals("*")) {
                long end = Long.parseLong(least);
                taken(with(name, numbers, i, end), refusal);
                refused(with(name, numbers, i, end - 1), refusal);
                refused(with(name, numbers, i, LEAST), refusal);
            }
            if (!most.equals("*")) {
                long end = Long.parseLong(most);
                taken(with(name, numbers, i, end), refusal);
                refused(with(name, numbers, i, end + 1), refusal);
                refused(with(name, numbers, i, MOST), refusal);
            }
        }
    }

    private static String with(String name, String[] numbers, int tried, long number) {
        StringBuilder told = new StringBuilder(name);
        for (int i = 0; i < numbers.length; i++) {
            String plain = numbers[i].substring(0, numbers[i].indexOf(':'));
            told.append(' ').append(i == tried ? Long.toString(number) : plain);
        }
        return told.toString();
    }

    private static void taken(String told, long refusal) {
        long got = Begun.object().call(told);
        Check.isTrue(told + " is not refused", got != refusal);
    }

    private static void refused(String told, long refusal) {
        Used x = Begun.object();
        x.due(told, refusal);
        Check.isTrue(told + " changes nothing", x.state().equals(begun));
    }

    /** A pot is there from when it comes, up to six: no call finds one further on. */
    private static void potsAsTheyCome() {
        String[] calls = {"cook 1 # ", "dish # 0 0", "dishes #", "taste # 0 0", "all # 0", "portion # 0", "over # 0 0",
            "back # 1", "strongest #", "harms # 0 0", "bring # 0 0 0 0", "mayHave # 1 0 0", "lent 1 #"};
        for (String call : calls) {
            Used x = new Used();
            x.due("keep 1 1 0 0", 0);
            for (int pots = 0; pots <= 6; pots++) {
                for (int pot = -1; pot <= 7; pot++) {
                    long got = x.call(call.replace("#", "" + pot).trim());
                    boolean isThere = pot >= 0 && pot < pots;
                    Check.isTrue(call + " for " + pot + " of " + pots, isThere == (got != -1 && got != FAR));
                }
                x.call("pot");
            }
        }
        Used x = new Used();
        x.due("keep 1 1 0 0", 0);
        for (int pots = 1; pots <= 6; pots++) {
            x.due("pot", pots - 1);
            x.due("cook 1 " + (pots - 1), 1);
            x.due("part " + (pots - 1) + " 0 0", 1);
            x.due("part " + pots + " 0 0", FAR);
        }
    }
}
