import java.util.ArrayList;
import java.util.Comparator;
import java.util.List;
import java.util.regex.Matcher;
import java.util.regex.Pattern;

/** The document once more, written as plainly as can be, with lists and all orders tried out one by one. */
final class Model {
    private static final int BAD = -1, NOT = -2, FULL = -3, NONE = -4, NULL = -11, CAST = -12, INDEX = -13, SIZE = -14;

    private static final class Coin {
        int number, worth, year, stamp, kind, holder;

        Coin copy() {
            Coin c = new Coin();
            c.number = number;
            c.worth = worth;
            c.year = year;
            c.stamp = stamp;
            c.kind = kind;
            c.holder = holder;
            return c;
        }
    }

    /** What went for a bill. */
    private static final class Went {
        final List<Coin> paid = new ArrayList<>();
        final List<Coin> back = new ArrayList<>();
        int due, lacking;
    }

    private static final class World {
        int law;
        final List<Coin> coins = new ArrayList<>();
        final List<int[]> day = new ArrayList<>();
        final List<int[]> errands = new ArrayList<>();

        World copy() {
            World w = new World();
            w.law = law;
            for (Coin c : coins) {
                w.coins.add(c.copy());
            }
            w.day.addAll(day);
            w.errands.addAll(errands);
            return w;
        }

        static boolean older(Coin a, Coin b) {
            boolean wornA = a.kind == 2, wornB = b.kind == 2, bentA = a.kind == 3, bentB = b.kind == 3;
            if (wornA != wornB) {
                return wornA;
            }
            if (bentA != bentB) {
                return bentB;
            }
            if (!wornA && !bentA) {
                int ageA = a.kind == 1 ? a.stamp : a.year;
                int ageB = b.kind == 1 ? b.stamp : b.year;
                if (ageA != ageB) {
                    return ageA < ageB;
                }
            }
            return a.number < b.number;
        }

        List<Coin> had(int holder, int byLaw) {
            Comparator<Coin> olderFirst = (a, b) -> a == b ? 0 : older(a, b) ? -1 : 1;
            Comparator<Coin> by = olderFirst;
            if (byLaw == 1) {
                by = olderFirst.reversed();
            } else if (byLaw == 2) {
                by = Comparator.<Coin>comparingInt(c -> c.worth).thenComparing(olderFirst);
            } else if (byLaw == 3) {
                by = Comparator.<Coin>comparingInt(c -> -c.worth).thenComparing(olderFirst);
            }
            List<Coin> row = new ArrayList<>();
            for (Coin c : coins) {
                if (c.holder == holder) {
                    row.add(c);
                }
            }
            row.sort(by);
            return row;
        }

        List<Coin> toPay(int holder) {
            return had(holder, law);
        }

        List<Coin> toGiveBack(int holder) {
            return had(holder, new int[] {1, 0, 3, 2}[law]);
        }

        int worth(int holder) {
            int sum = 0;
            for (Coin c : had(holder, 0)) {
                sum += c.worth;
            }
            return sum;
        }

        /** null: not met. */
        Went bill(int purse, int shop, int sum) {
            if (worth(purse) < sum) {
                return null;
            }
            Went w = new Went();
            int together = 0;
            for (Coin c : toPay(purse)) {
                if (together >= sum) {
                    break;
                }
                together += c.worth;
                w.paid.add(c);
            }
            w.due = together - sum;
            w.lacking = w.due;
            for (Coin c : toGiveBack(shop)) {
                if (c.worth <= w.lacking) {
                    w.lacking -= c.worth;
                    w.back.add(c);
                }
            }
            for (Coin c : w.paid) {
                c.holder = shop;
            }
            for (Coin c : w.back) {
                c.holder = purse;
            }
            return w;
        }

        boolean isEven(int purse, int shop, int sum) {
            Went w = bill(purse, shop, sum);
            return w != null && w.due == 0;
        }

        int run(int n) {
            int done = 0;
            for (int i = 0; i < n; i++) {
                for (int[] b : day) {
                    if (bill(b[0], b[1], b[2]) == null) {
                        return done;
                    }
                    done++;
                }
            }
            return done;
        }

        World forged(int coin, int year) {
            World w = copy();
            w.coins.get(coin).kind = 1;
            w.coins.get(coin).stamp = year;
            return w;
        }

        /** For each bill of the day, run once, the numbers of the coins paid. */
        List<List<Integer>> paidOnDay() {
            List<List<Integer>> all = new ArrayList<>();
            boolean ended = false;
            for (int[] b : day) {
                Went w = ended ? null : bill(b[0], b[1], b[2]);
                ended |= w == null;
                List<Integer> numbers = new ArrayList<>();
                if (w != null) {
                    w.paid.forEach(c -> numbers.add(c.number));
                }
                numbers.sort(null);
                all.add(numbers);
            }
            return all;
        }
    }

    private World now = new World();
    private World image;
    private String tape = "";
    private final Object[] sheets = new Object[4];

    private static boolean in(int v, int low, int high) {
        return low <= v && v <= high;
    }

    private boolean isCoin(int coin) {
        return in(coin, 0, now.coins.size() - 1);
    }

    private static boolean isBill(int purse, int shop, int sum) {
        return in(purse, 0, 3) && in(shop, 4, 7) && in(sum, 1, 999);
    }

    private void add(int holder, int worth, int year, int stamp, int kind) {
        Coin c = new Coin();
        c.number = now.coins.size();
        c.holder = holder;
        c.worth = worth;
        c.year = year;
        c.stamp = stamp;
        c.kind = kind;
        now.coins.add(c);
    }

    int coin(int holder, int worth, int year, int kind) {
        if (!in(holder, 0, 7) || !in(worth, 1, 99) || !in(year, 0, 99) || !in(kind, 0, 3)) {
            return BAD;
        }
        if (now.coins.size() == 40) {
            return FULL;
        }
        add(holder, worth, year, year, kind);
        return now.coins.size() - 1;
    }

    int stamp(int coin, int year) {
        if (!isCoin(coin) || !in(year, 0, 99)) {
            return BAD;
        }
        int was = now.coins.get(coin).stamp;
        now.coins.get(coin).stamp = year;
        return was;
    }

    int told(int coin, int what) {
        if (!isCoin(coin) || !in(what, 0, 4)) {
            return BAD;
        }
        Coin c = now.coins.get(coin);
        return new int[] {c.worth, c.year, c.stamp, c.kind, c.holder}[what];
    }

    int give(int coin, int holder) {
        if (!isCoin(coin) || !in(holder, 0, 7)) {
            return BAD;
        }
        int was = now.coins.get(coin).holder;
        now.coins.get(coin).holder = holder;
        return was;
    }

    int older(int a, int b) {
        if (!isCoin(a) || !isCoin(b) || a == b) {
            return BAD;
        }
        return World.older(now.coins.get(a), now.coins.get(b)) ? a : b;
    }

    int rule(int v) {
        if (!in(v, 0, 3)) {
            return BAD;
        }
        int was = now.law;
        now.law = v;
        return was;
    }

    int of(int holder, int what) {
        if (!in(holder, 0, 7) || !in(what, 0, 3)) {
            return BAD;
        }
        List<Coin> pay = now.toPay(holder);
        if (what < 2) {
            return what == 0 ? pay.size() : now.worth(holder);
        }
        return pay.isEmpty() ? NONE : what == 2 ? pay.get(0).number : now.toGiveBack(holder).get(0).number;
    }

    int type(long w, int n) {
        if (!in(n, 1, 8)) {
            return BAD;
        }
        String more = "";
        for (int i = 0; i < n; i++) {
            int b = (int) (w >>> 8 * i) & 0xff;
            if (!in(b, 32, 126)) {
                return BAD;
            }
            more = (char) b + more;
        }
        if (tape.length() + n > 160) {
            return FULL;
        }
        tape += more;
        return tape.length();
    }

    private static final String COIN = " *[0-9]+ *y *[0-9]+ *(?:f *[0-9]+ *|w *|b *)?";
    private static final String BILL = " *[0-3] *> *[4-7] *: *[0-9]+ *";
    private static final Pattern PURSE = Pattern.compile(COIN + "(?:," + COIN + "){0,9}");
    private static final Pattern DAY = Pattern.compile(BILL + "(?:," + BILL + "){0,23}");
    private static final Pattern DIGITS = Pattern.compile("[0-9]+");

    /** The place of the fault, or -1; numbers that are not as told count by their first byte. */
    private static int fault(String text, Pattern pattern, int[] low, int[] high) {
        int stands = 0;
        while (stands <= text.length()) {
            Matcher m = pattern.matcher(text.substring(0, stands));
            if (!m.matches() && !m.hitEnd()) {
                break;
            }
            stands++;
        }
        stands--;
        int at = 0;
        for (String part : text.substring(0, stands).split(",", -1)) {
            Matcher m = DIGITS.matcher(part);
            for (int k = 0; m.find(); k++) {
                java.math.BigInteger v = new java.math.BigInteger(m.group());
                if (v.compareTo(java.math.BigInteger.valueOf(low[k])) < 0
                        || v.compareTo(java.math.BigInteger.valueOf(high[k])) > 0) {
                    return at + m.start();
                }
            }
            at += part.length() + 1;
        }
        return pattern.matcher(text).matches() ? -1 : stands;
    }

    private static List<Integer> numbers(String part) {
        List<Integer> all = new ArrayList<>();
        Matcher m = DIGITS.matcher(part);
        while (m.find()) {
            all.add(Integer.parseInt(m.group()));
        }
        return all;
    }

    int purse(int holder) {
        if (!in(holder, 0, 7)) {
            return BAD;
        }
        String text = tape;
        tape = "";
        int fault = fault(text, PURSE, new int[] {1, 0, 0}, new int[] {99, 99, 99});
        if (fault >= 0) {
            return -20 - fault;
        }
        String[] parts = text.split(",");
        if (now.coins.size() + parts.length > 40) {
            return FULL;
        }
        for (String part : parts) {
            List<Integer> v = numbers(part);
            int kind = part.contains("f") ? 1 : part.contains("w") ? 2 : part.contains("b") ? 3 : 0;
            add(holder, v.get(0), v.get(1), v.get(kind == 1 ? 2 : 1), kind);
        }
        return parts.length;
    }

    int day() {
        String text = tape;
        tape = "";
        int fault = fault(text, DAY, new int[] {0, 4, 1}, new int[] {3, 7, 999});
        if (fault >= 0) {
            return -20 - fault;
        }
        now.day.clear();
        for (String part : text.split(",")) {
            List<Integer> v = numbers(part);
            now.day.add(new int[] {v.get(0), v.get(1), v.get(2)});
        }
        return now.day.size();
    }

    int count(int what) {
        if (!in(what, 0, 3)) {
            return BAD;
        }
        int worth = 0;
        for (Coin c : now.coins) {
            worth += c.worth;
        }
        return new int[] {now.coins.size(), worth, now.day.size(), now.errands.size()}[what];
    }

    int bill(int purse, int shop, int sum) {
        if (!isBill(purse, shop, sum)) {
            return BAD;
        }
        Went w = now.bill(purse, shop, sum);
        return w == null ? NOT : w.due - w.lacking;
    }

    int would(int purse, int shop, int sum, int what) {
        if (!isBill(purse, shop, sum) || !in(what, 0, 3)) {
            return BAD;
        }
        Went w = now.copy().bill(purse, shop, sum);
        return w == null ? NOT : new int[] {w.paid.size(), sum + w.due, w.back.size(), w.lacking}[what];
    }

    int even(int purse, int i) {
        if (!in(purse, 0, 3) || i < -1) {
            return BAD;
        }
        int found = 0;
        for (int sum = 1; sum <= Math.min(999, now.worth(purse)); sum++) {
            if (now.copy().isEven(purse, 4, sum)) {
                if (found == i) {
                    return sum;
                }
                found++;
            }
        }
        return i == -1 ? found : NONE;
    }

    int least(int purse, int shop, int other, int sum) {
        if (!isBill(purse, shop, sum) || !in(other, 4, 7)) {
            return BAD;
        }
        for (int first = 0; first <= 99; first++) {
            World w = now.copy();
            if ((first == 0 || w.bill(purse, shop, first) != null) && w.isEven(purse, other, sum)) {
                return first;
            }
        }
        return NONE;
    }

    int errand(int shop, int sum) {
        if (!in(shop, 4, 7) || !in(sum, 1, 999)) {
            return BAD;
        }
        if (now.errands.size() == 6) {
            return FULL;
        }
        now.errands.add(new int[] {shop, sum});
        return now.errands.size() - 1;
    }

    int home() {
        int was = now.errands.size();
        now.errands.clear();
        return was;
    }

    private static List<List<Integer>> orders(int n) {
        List<List<Integer>> all = new ArrayList<>();
        grow(n, new ArrayList<>(), all);
        return all;
    }

    private static void grow(int n, List<Integer> row, List<List<Integer>> all) {
        if (row.size() == n) {
            all.add(new ArrayList<>(row));
            return;
        }
        for (int i = 0; i < n; i++) {
            if (!row.contains(i)) {
                row.add(i);
                grow(n, row, all);
                row.remove(row.size() - 1);
            }
        }
    }

    int order(int purse, int i) {
        if (!in(purse, 0, 3) || !in(i, -1, 5)) {
            return BAD;
        }
        if (now.errands.isEmpty() || i >= now.errands.size()) {
            return NONE;
        }
        int most = -1;
        List<Integer> best = null;
        for (List<Integer> order : orders(now.errands.size())) {
            World w = now.copy();
            int evens = 0;
            for (int e : order) {
                evens += w.isEven(purse, now.errands.get(e)[0], now.errands.get(e)[1]) ? 1 : 0;
            }
            if (evens > most) {
                most = evens;
                best = order;
            }
        }
        return i == -1 ? most : best.get(i);
    }

    int send(int purse, int coin, int shop, int i) {
        if (!in(purse, 0, 3) || !isCoin(coin) || !in(shop, 4, 7) || !in(i, 0, 5)) {
            return BAD;
        }
        for (List<Integer> order : orders(now.errands.size())) {
            World w = now.copy();
            for (int e : order) {
                w.bill(purse, now.errands.get(e)[0], now.errands.get(e)[1]);
            }
            if (w.coins.get(coin).holder == shop) {
                return i < order.size() ? order.get(i) : NONE;
            }
        }
        return NONE;
    }

    int lent(int first, int shop, int sum, int second, int shop2, int sum2) {
        if (!isBill(first, shop, sum) || !isBill(second, shop2, sum2) || first == second) {
            return BAD;
        }
        int most = -1;
        int lent = NONE;
        for (int coin = -1; coin < now.coins.size(); coin++) {
            World w = now.copy();
            if (coin >= 0) {
                if (w.coins.get(coin).holder != first) {
                    continue;
                }
                w.coins.get(coin).holder = second;
            }
            int evens = 0;
            evens += w.isEven(first, shop, sum) ? 1 : 0;
            evens += w.isEven(second, shop2, sum2) ? 1 : 0;
            if (evens > most) {
                most = evens;
                lent = coin < 0 ? NONE : coin;
            }
        }
        return lent;
    }

    int run(int n) {
        return in(n, 1, 50) ? now.run(n) : BAD;
    }

    int where(int coin, int n) {
        if (!isCoin(coin) || !in(n, 1, 50)) {
            return BAD;
        }
        World w = now.copy();
        w.run(n);
        return w.coins.get(coin).holder;
    }

    int gain(int purse, int coin, int year) {
        if (!in(purse, 0, 3) || !isCoin(coin) || !in(year, 0, 99)) {
            return BAD - 100000;
        }
        World asIs = now.copy();
        World forged = now.forged(coin, year);
        asIs.run(1);
        forged.run(1);
        return forged.worth(purse) - asIs.worth(purse);
    }

    int shows(int coin, int year) {
        if (!isCoin(coin) || !in(year, 0, 99)) {
            return BAD;
        }
        List<List<Integer>> asIs = now.copy().paidOnDay();
        List<List<Integer>> forged = now.forged(coin, year).paidOnDay();
        for (int i = 0; i < asIs.size(); i++) {
            if (!asIs.get(i).equals(forged.get(i))) {
                return i;
            }
        }
        return NONE;
    }

    int image() {
        image = now.copy();
        return 1;
    }

    int restore() {
        if (image == null) {
            return NONE;
        }
        now = image.copy();
        return 1;
    }

    private int refused(int sheet, int lane, int from, int n) {
        Object row = sheets[sheet];
        if (row == null) {
            return NULL;
        }
        if (lane != (row instanceof byte[] ? 0 : row instanceof int[] ? 1 : 2)) {
            return CAST;
        }
        return from < 0 || (long) from + n > java.lang.reflect.Array.getLength(row) ? INDEX : 0;
    }

    int seen(int sheet, int lane, int from, int n, int sum, int paid, int change, int k) {
        if (!in(sheet, 0, 3) || !in(lane, 0, 2) || !in(n, 1, 4) || !in(sum, 1, 999) || !in(paid, 1, 4)
                || !in(change, 0, 99) || k < -1 || k >= n) {
            return BAD;
        }
        int refused = refused(sheet, lane, from, n);
        if (refused != 0) {
            return refused;
        }
        long[] worth = new long[n];
        for (int i = 0; i < n; i++) {
            worth[i] = java.lang.reflect.Array.getLong(sheets[sheet], from + i);
            if (worth[i] < 1 || worth[i] > 99) {
                return NOT;
            }
        }
        int found = 0;
        List<Integer> first = null;
        for (List<Integer> order : orders(n)) {
            long ahead = 0;
            for (int i = 0; i < Math.min(paid, n) - 1; i++) {
                ahead += worth[order.get(i)];
            }
            boolean fits = paid <= n && ahead < sum && ahead + worth[order.get(paid - 1)] == sum + change;
            if (fits) {
                first = first == null ? order : first;
                found++;
            }
        }
        return found == 0 ? NONE : k == -1 ? found : first.get(k);
    }

    int sheet(int sheet, int lane, int n) {
        if (!in(sheet, 0, 3) || !in(lane, 0, 2) || n > 24) {
            return BAD;
        }
        if (n < 0) {
            return SIZE;
        }
        sheets[sheet] = lane == 0 ? new byte[n] : lane == 1 ? (Object) new int[n] : new long[n];
        return n;
    }

    int drop(int sheet) {
        if (!in(sheet, 0, 3)) {
            return BAD;
        }
        if (sheets[sheet] == null) {
            return NULL;
        }
        int had = java.lang.reflect.Array.getLength(sheets[sheet]);
        sheets[sheet] = null;
        return had;
    }

    private void put(int sheet, int i, long v) {
        if (sheets[sheet] instanceof byte[] row) {
            row[i] = (byte) v;
        } else if (sheets[sheet] instanceof int[] row) {
            row[i] = (int) v;
        } else if (sheets[sheet] instanceof long[] row) {
            row[i] = v;
        }
    }

    int item(int sheet, int lane, int i, long v) {
        if (!in(sheet, 0, 3) || !in(lane, 0, 2)) {
            return BAD;
        }
        int refused = refused(sheet, lane, i, 1);
        if (refused != 0) {
            return refused;
        }
        put(sheet, i, v);
        return 1;
    }

    int film(int holder, int sheet, int lane, int from) {
        if (!in(holder, 0, 7) || !in(sheet, 0, 3) || !in(lane, 0, 2)) {
            return BAD;
        }
        List<Coin> row = now.toPay(holder);
        int refused = refused(sheet, lane, from, row.size());
        if (refused != 0) {
            return refused;
        }
        for (int i = 0; i < row.size(); i++) {
            put(sheet, from + i, row.get(i).number);
        }
        return row.size();
    }
}
