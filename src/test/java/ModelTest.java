import java.lang.reflect.Method;
import java.util.ArrayList;
import java.util.Arrays;
import java.util.List;
import java.util.Random;

/** Random runs of calls, on an object and on the Model at once: all answers must be the same. */
public final class ModelTest {
    private static final int RUNS = 1500;
    private static final int STEPS = 512;
    private static final int[] EXTREMES = {Integer.MIN_VALUE, Integer.MIN_VALUE + 1, -100001, -2, -1, 0, 1, 3, 4, 7, 8, 24, 25,
        39, 40, 50, 51, 63, 64, 99, 100, 160, 999, 1000, Integer.MAX_VALUE - 1, Integer.MAX_VALUE};
    private static final Method[] CALLED = called();

    private final Random random;
    private final OldestCoins real = new OldestCoins();
    private final Model model = new Model();
    private final List<String> trace = new ArrayList<>();
    private final int mostWorth;
    private final int mostYear;

    private ModelTest(long seed) {
        random = new Random(seed);
        mostWorth = new int[] {3, 9, 30, 99}[random.nextInt(4)];
        mostYear = new int[] {2, 10, 99}[random.nextInt(3)];
    }

    public static void main(String[] args) throws Exception {
        int wrong = 0;
        for (int seed = 1; seed <= RUNS && wrong < 5; seed++) {
            wrong += new ModelTest(seed).goesWrong(seed) ? 1 : 0;
        }
        System.out.println(RUNS + " runs of " + STEPS + " steps (a call, a text typed and read, or none) against the model, " + wrong + " went wrong");
        if (wrong != 0) {
            System.exit(1);
        }
    }

    private static Method[] called() {
        Method[] all = Model.class.getDeclaredMethods();
        return Arrays.stream(all)
            .filter(m -> Arrays.stream(OldestCoins.class.getMethods()).anyMatch(o -> o.getName().equals(m.getName())
                && Arrays.equals(o.getParameterTypes(), m.getParameterTypes()) && o.getDeclaringClass() == OldestCoins.class))
            .sorted((a, b) -> a.getName().compareTo(b.getName()))
            .toArray(Method[]::new);
    }

    private boolean goesWrong(int seed) throws Exception {
        boolean good = seed % 4 == 0 || begun();
        for (int i = 0; i < STEPS; i++) {
            good = good && step();
            if (!good) {
                int from = Math.max(0, trace.size() - 60);
                System.out.println("seed " + seed + ", the last calls:");
                trace.subList(from, trace.size()).forEach(System.out::println);
                return true;
            }
        }
        return false;
    }

    /** A town in which something goes on: coins where bills are paid, a day, a sheet of worths, an image of it all. */
    private boolean begun() throws Exception {
        boolean good = same(method("sheet"), 0, 1, 8);
        for (int i = 0; i < 8; i++) {
            good &= same(method("item"), 0, 1, i, 1L + random.nextInt(9));
        }
        for (int holder : new int[] {0, 1, 4, 5}) {
            for (int i = 1 + random.nextInt(9); i > 0; i--) {
                good &= same(method("coin"), holder, 1 + random.nextInt(mostWorth), random.nextInt(mostYear + 1), random.nextInt(4));
            }
        }
        for (int i = random.nextInt(7); i > 0; i--) {
            good &= same(method("errand"), 4 + random.nextInt(2), 1 + random.nextInt(2 * mostWorth));
        }
        return good && same(method("rule"), random.nextInt(4)) && typed(dayText()) && same(method("image"));
    }

    private boolean step() throws Exception {
        int dice = random.nextInt(100);
        if (dice < 4) {
            return typed(purseText());
        }
        if (dice < 6) {
            return typed(dayText());
        }
        if (dice < 8 && random.nextInt(3) == 0) {
            return typed(spoilt(random.nextBoolean() ? purseText() : dayText()));
        }
        Method m = CALLED[random.nextInt(CALLED.length)];
        // The purses would be empty soon if each way to change things were as likely as the others.
        boolean isRare = List.of("home", "drop", "sheet", "film", "image", "type", "run", "bill").contains(m.getName());
        if (isRare && random.nextInt(4) != 0) {
            return same(method("restore"));
        }
        boolean isDear = m.getName().equals("order") || m.getName().equals("send");
        if (isDear && random.nextInt(3) != 0) {
            return true;
        }
        return same(m, arguments(m.getName()));
    }

    private boolean same(Method m, Object... args) throws Exception {
        Method other = OldestCoins.class.getMethod(m.getName(), m.getParameterTypes());
        Object want = m.invoke(model, args);
        Object got;
        try {
            got = other.invoke(real, args);
        } catch (java.lang.reflect.InvocationTargetException e) {
            got = e.getCause();
        }
        trace.add(m.getName() + Arrays.toString(args) + " answered " + got + (want.equals(got) ? "" : ", due is " + want));
        return want.equals(got);
    }

    private static Method method(String name) {
        return Arrays.stream(CALLED).filter(m -> m.getName().equals(name)).findFirst().get();
    }

    private boolean typed(String text) throws Exception {
        boolean good = true;
        for (int at = 0; at < text.length() && good; at += 8) {
            String piece = text.substring(at, Math.min(at + 8, text.length()));
            good = same(method("type"), Check.word(piece), piece.length());
        }
        boolean isDay = text.contains(">");
        return good && (isDay ? same(method("day")) : same(method("purse"), holder()));
    }

    private String blank() {
        return random.nextInt(12) == 0 ? " " : "";
    }

    private String purseText() {
        StringBuilder s = new StringBuilder();
        int n = 1 + random.nextInt(random.nextInt(20) == 0 ? 11 : 6);
        for (int i = 0; i < n; i++) {
            s.append(i == 0 ? "" : ",").append(blank()).append(worth()).append(blank()).append('y').append(blank()).append(year());
            int kind = random.nextInt(8);
            s.append(kind == 1 ? "f" + blank() + year() : kind == 2 ? blank() + "w" : kind == 3 ? "b" : "").append(blank());
        }
        return s.toString();
    }

    private String dayText() {
        StringBuilder s = new StringBuilder();
        int n = 1 + random.nextInt(random.nextInt(20) == 0 ? 25 : 8);
        for (int i = 0; i < n; i++) {
            s.append(i == 0 ? "" : ",").append(blank()).append(purse()).append('>').append(blank()).append(shop());
            s.append(':').append(sum()).append(blank());
        }
        return s.substring(0, Math.min(s.length(), 168));
    }

    private String spoilt(String text) {
        StringBuilder s = new StringBuilder(text);
        String signs = "0123456789  ywfb>:,;x~";
        for (int i = random.nextInt(3); i >= 0 && s.length() > 0; i--) {
            int at = random.nextInt(s.length());
            char sign = signs.charAt(random.nextInt(signs.length()));
            switch (random.nextInt(4)) {
                case 0 -> s.deleteCharAt(at);
                case 1 -> s.insert(at, sign);
                case 2 -> s.setLength(at);
                default -> s.setCharAt(at, sign);
            }
        }
        return s.toString();
    }

    private int pick(int low, int high) {
        return random.nextInt(60) == 0 ? EXTREMES[random.nextInt(EXTREMES.length)] : low + random.nextInt(high - low + 1);
    }

    private int holder() {
        return random.nextInt(3) == 0 ? pick(0, 7) : new int[] {0, 1, 4, 5}[random.nextInt(4)];
    }

    private int purse() {
        return random.nextInt(3) == 0 ? pick(0, 3) : random.nextInt(2);
    }

    private int shop() {
        return random.nextInt(3) == 0 ? pick(4, 7) : 4 + random.nextInt(2);
    }

    private int worth() {
        return pick(1, mostWorth);
    }

    private int year() {
        return pick(0, mostYear);
    }

    private int sum() {
        return random.nextInt(10) == 0 ? pick(1, 999) : pick(1, Math.max(4, 2 * mostWorth));
    }

    private int coin() {
        return pick(0, Math.min(39, real.count(0) + 1));
    }

    private int sheet() {
        return random.nextInt(5) == 0 ? pick(0, 3) : 0;
    }

    private int lane() {
        return random.nextInt(5) == 0 ? pick(0, 2) : 1;
    }

    private Object[] arguments(String name) {
        switch (name) {
            case "coin":
                return new Object[] {holder(), worth(), year(), pick(0, 3)};
            case "stamp":
            case "shows":
                return new Object[] {coin(), year()};
            case "told":
                return new Object[] {coin(), pick(0, 4)};
            case "give":
                return new Object[] {coin(), holder()};
            case "older":
                return new Object[] {coin(), coin()};
            case "rule":
            case "count":
                return new Object[] {pick(0, 3)};
            case "of":
                return new Object[] {holder(), pick(0, 3)};
            case "type":
                return new Object[] {random.nextBoolean() ? random.nextLong() : 0x3579312c3579312cL, pick(1, 8)};
            case "purse":
                return new Object[] {holder()};
            case "bill":
                return new Object[] {purse(), shop(), sum()};
            case "would":
                return new Object[] {purse(), shop(), sum(), pick(0, 3)};
            case "even":
                return new Object[] {purse(), pick(-1, 8)};
            case "least":
                return new Object[] {purse(), shop(), shop(), sum()};
            case "errand":
                return new Object[] {shop(), sum()};
            default:
                return moreArguments(name);
        }
    }

    private Object[] moreArguments(String name) {
        switch (name) {
            case "order":
                return new Object[] {purse(), pick(-1, 5)};
            case "send":
                return new Object[] {purse(), coin(), shop(), pick(0, 5)};
            case "lent":
                return new Object[] {purse(), shop(), sum(), purse(), shop(), sum()};
            case "run":
                return new Object[] {random.nextBoolean() ? 1 : pick(1, 50)};
            case "where":
                return new Object[] {coin(), pick(1, 50)};
            case "gain":
                return new Object[] {purse(), coin(), year()};
            case "seen":
                return new Object[] {sheet(), lane(), pick(0, 4), pick(1, 4), pick(1, 15), pick(1, 3), pick(0, 3), pick(-1, 1)};
            case "sheet":
                return new Object[] {sheet(), lane(), pick(0, 24)};
            case "drop":
                return new Object[] {sheet()};
            case "item":
                return new Object[] {sheet(), lane(), pick(0, 8), random.nextInt(10) == 0 ? random.nextLong() : (long) pick(1, 9)};
            case "film":
                return new Object[] {holder(), sheet(), lane(), pick(0, 12)};
            default:
                return new Object[0];
        }
    }
}
