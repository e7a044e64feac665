import java.lang.reflect.Method;
import java.util.ArrayList;
import java.util.List;
import java.util.TreeSet;

/**
 * Each number that a call takes: the last one that is taken and the first one that is refused, on either side.
 * BAD is looked at in a new town, too, in a busy one and in one that is full of all: there other refusals would be due
 * behind it. What is refused changes nothing.
 */
public final class BoundsTest {
    private static final int BAD = -1, INDEX = -13, SIZE = -14, BAD_GAIN = -100001;
    /** In place of a highest number: the last coin that there is. */
    private static final int LAST_COIN = 1_000_001;
    private static final Check c = new Check();
    private static final List<Row> ROWS = new ArrayList<>();

    private record Row(String call, int which, int low, int below, int high, int above, Object[] taken) {
    }

    public static void main(String[] args) throws Exception {
        coins();
        bills();
        days();
        sheets();
        allAreThere();
        for (Row row : ROWS) {
            c.part(row.call + ", argument " + row.which);
            takes(row);
            refuses(row);
        }
        evenHasNoLast();
        bytes();
        c.end();
    }

    /** Of a call with arguments that are taken (the row's end): its numbers from low to high are taken, all others BAD. */
    private static void bad(String call, int which, int low, int high, Object... taken) {
        ROWS.add(new Row(call, which, low, BAD, high, BAD, taken));
    }

    private static void of(int refusal, String call, int which, int low, int high, Object... taken) {
        ROWS.add(new Row(call, which, low, refusal, high, refusal, taken));
    }

    private static void coins() {
        bad("coin", 0, 0, 7, 0, 1, 1, 0);
        bad("coin", 1, 1, 99, 0, 1, 1, 0);
        bad("coin", 2, 0, 99, 0, 1, 1, 0);
        bad("coin", 3, 0, 3, 0, 1, 1, 0);
        bad("stamp", 0, 0, LAST_COIN, 0, 1);
        bad("stamp", 1, 0, 99, 0, 1);
        bad("told", 0, 0, LAST_COIN, 0, 0);
        bad("told", 1, 0, 4, 0, 0);
        bad("give", 0, 0, LAST_COIN, 0, 7);
        bad("give", 1, 0, 7, 0, 7);
        bad("older", 0, 0, LAST_COIN, 0, 1);
        bad("older", 1, 0, LAST_COIN, 1, 0);
        bad("rule", 0, 0, 3, 0);
        bad("of", 0, 0, 7, 0, 2);
        bad("of", 1, 0, 3, 0, 2);
        bad("type", 1, 1, 8, Check.word("1y1,1y1,"), 8);
        bad("purse", 0, 0, 7, 0);
        bad("count", 0, 0, 3, 0);
    }

    private static void bills() {
        for (String call : new String[] {"bill", "would", "lent"}) {
            Object[] taken = call.equals("bill") ? new Object[] {0, 4, 1}
                : call.equals("would") ? new Object[] {0, 4, 1, 0} : new Object[] {0, 4, 1, 1, 5, 1};
            bad(call, 0, 0, 3, taken);
            bad(call, 1, 4, 7, taken);
            bad(call, 2, 1, 999, taken);
        }
        bad("would", 3, 0, 3, 0, 4, 1, 0);
        bad("lent", 3, 0, 3, 1, 4, 1, 0, 5, 1);
        bad("lent", 4, 4, 7, 0, 4, 1, 1, 5, 1);
        bad("lent", 5, 1, 999, 0, 4, 1, 1, 5, 1);
        bad("even", 0, 0, 3, 0, 0);
        bad("least", 0, 0, 3, 0, 4, 5, 1);
        bad("least", 1, 4, 7, 0, 4, 5, 1);
        bad("least", 2, 4, 7, 0, 4, 5, 1);
        bad("least", 3, 1, 999, 0, 4, 5, 1);
        bad("errand", 0, 4, 7, 4, 1);
        bad("errand", 1, 1, 999, 4, 1);
        bad("order", 0, 0, 3, 0, 0);
        bad("order", 1, -1, 5, 0, 0);
        bad("send", 0, 0, 3, 0, 0, 4, 0);
        bad("send", 1, 0, LAST_COIN, 0, 0, 4, 0);
        bad("send", 2, 4, 7, 0, 0, 4, 0);
        bad("send", 3, 0, 5, 0, 0, 4, 0);
    }

    private static void days() {
        bad("run", 0, 1, 50, 1);
        bad("where", 0, 0, LAST_COIN, 0, 1);
        bad("where", 1, 1, 50, 0, 1);
        of(BAD_GAIN, "gain", 0, 0, 3, 0, 0, 1);
        of(BAD_GAIN, "gain", 1, 0, LAST_COIN, 0, 0, 1);
        of(BAD_GAIN, "gain", 2, 0, 99, 0, 0, 1);
        bad("shows", 0, 0, LAST_COIN, 0, 1);
        bad("shows", 1, 0, 99, 0, 1);
    }

    /** Sheet 0 of a town has 4 ints, its purse 1 one coin, its purse 0 four. */
    private static void sheets() {
        bad("seen", 0, 0, 3, 0, 1, 0, 1, 5, 1, 0, 0);
        bad("seen", 1, 0, 2, 0, 1, 0, 1, 5, 1, 0, 0);
        bad("seen", 3, 1, 4, 0, 1, 0, 1, 5, 1, 0, 0);
        bad("seen", 4, 1, 999, 0, 1, 0, 1, 5, 1, 0, 0);
        bad("seen", 5, 1, 4, 0, 1, 0, 1, 5, 1, 0, 0);
        bad("seen", 6, 0, 99, 0, 1, 0, 1, 5, 1, 0, 0);
        for (int n = 1; n <= 4; n++) {
            bad("seen", 7, -1, n - 1, 0, 1, 0, n, 5, 1, 0, 0);
            of(INDEX, "seen", 2, 0, 4 - n, 0, 1, 0, n, 5, 1, 0, 0);
        }
        bad("sheet", 0, 0, 3, 0, 0, 1);
        bad("sheet", 1, 0, 2, 0, 0, 1);
        ROWS.add(new Row("sheet", 2, 0, SIZE, 24, BAD, new Object[] {0, 0, 1}));
        bad("drop", 0, 0, 3, 0);
        bad("item", 0, 0, 3, 0, 1, 0, 50L);
        bad("item", 1, 0, 2, 0, 1, 0, 50L);
        of(INDEX, "item", 2, 0, 3, 0, 1, 0, 50L);
        bad("film", 0, 0, 7, 3, 0, 1, 0);
        bad("film", 1, 0, 3, 3, 0, 1, 0);
        bad("film", 2, 0, 2, 3, 0, 1, 0);
        of(INDEX, "film", 3, 0, 3, 3, 0, 1, 0);
        of(INDEX, "film", 3, 0, 0, 0, 0, 1, 0);
    }

    /** No number of the face is forgotten; any long may be typed or become an item, day, home, image, restore take none. */
    private static void allAreThere() {
        TreeSet<String> due = new TreeSet<>();
        TreeSet<String> got = new TreeSet<>(List.of("even 1"));
        for (Method m : OldestCoins.class.getDeclaredMethods()) {
            for (int i = 0; java.lang.reflect.Modifier.isPublic(m.getModifiers()) && i < m.getParameterCount(); i++) {
                if (m.getParameterTypes()[i] == int.class) {
                    due.add(m.getName() + " " + i);
                }
            }
        }
        ROWS.forEach(row -> got.add(row.call + " " + row.which));
        c.part("all numbers of the face");
        c.due("rows of this test: " + got + ", of the face: " + due, got.equals(due) ? 1 : 0, 1);
    }

    private static int answer(OldestCoins x, Row row, int v) throws Exception {
        Object[] args = row.taken.clone();
        args[row.which] = v;
        for (Method m : OldestCoins.class.getMethods()) {
            if (m.getName().equals(row.call)) {
                return (Integer) m.invoke(x, args);
            }
        }
        throw new IllegalStateException(row.call);
    }

    private static int high(Row row, OldestCoins x) {
        return row.high == LAST_COIN ? x.count(0) - 1 : row.high;
    }

    private static void takes(Row row) throws Exception {
        for (int v : new int[] {row.low, high(row, Towns.busy())}) {
            int got = answer(Towns.busy(), row, v);
            c.due(v + " is taken, its answer " + got + " a refusal", got == row.below || got == row.above ? 1 : 0, 0);
        }
    }

    private static void refuses(Row row) throws Exception {
        List<Integer> untouched = Probe.of(Towns.busy());
        int high = high(row, Towns.busy());
        for (int v : new int[] {row.low - 1, Integer.MIN_VALUE, high + 1, Integer.MAX_VALUE}) {
            int due = v < row.low ? row.below : row.above;
            OldestCoins x = Towns.busy();
            c.due(v + " in a busy town", answer(x, row, v), due);
            c.due(v + " changes nothing, equal", untouched.equals(Probe.of(x)) ? 1 : 0, 1);
        }
        if (row.above == INDEX) {
            return;
        }
        for (OldestCoins x : new OldestCoins[] {new OldestCoins(), Towns.full()}) {
            int there = high(row, x);
            c.due("below, with " + x.count(0) + " coins", answer(x, row, row.low - 1), row.below);
            c.due("above, with " + x.count(0) + " coins", answer(x, row, there + 1), row.above);
        }
    }

    private static void evenHasNoLast() {
        c.part("even, i from -1 on");
        OldestCoins x = Towns.busy();
        c.due("-1 is taken", x.even(0, -1), 4);
        c.due("the last", x.even(0, 3), 21);
        c.due("there is no i-th", x.even(0, 4), -4);
        c.due("there is no i-th", x.even(0, Integer.MAX_VALUE), -4);
        c.due("BAD", x.even(0, -2), BAD);
        c.due("BAD", x.even(0, Integer.MIN_VALUE), BAD);
        c.due("BAD, though there are none", x.even(2, -2), BAD);
    }

    /** Each of n bytes must be 32 .. 126; those above the n lowest do not count. */
    private static void bytes() {
        c.part("type, bytes");
        for (int n = 1; n <= 8; n++) {
            for (int at = 0; at < n; at++) {
                for (int b : new int[] {0, 10, 31, 127, 128, 160, 255}) {
                    OldestCoins x = new OldestCoins();
                    c.due("byte " + b + " at " + at + " of " + n, x.type(with(at, b), n), BAD);
                    c.due("nothing comes", x.type(with(at, ' '), n), n);
                }
                for (int b : new int[] {32, 33, 125, 126}) {
                    c.due("byte " + b + " at " + at + " of " + n, new OldestCoins().type(with(at, b), n), n);
                }
            }
            for (int above = n; above < 8; above++) {
                c.due("byte 0 above " + n, new OldestCoins().type(with(above, 0), n), n);
                c.due("byte 255 above " + n, new OldestCoins().type(with(above, 255), n), n);
            }
        }
        OldestCoins full = Towns.full();
        c.due("a byte, BAD ahead of FULL", full.type(31, 1), BAD);
    }

    private static long with(int at, long b) {
        long signs = Check.word("5y1,5y1,");
        return signs & ~(255L << 8 * at) | b << 8 * at;
    }
}
