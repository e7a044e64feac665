import com.sun.management.ThreadMXBean;
import java.lang.management.ManagementFactory;
import java.util.function.IntUnaryOperator;

/** The dearest calls, 512 of each: they come to an end soon, and make nothing that would fill the room. */
public final class RoomTest {
    private static final int CALLS = 512;
    private static final long MOST_SECONDS = 20;
    private static final long MOST_BYTES_OF_A_CALL = 64;
    private static final long MOST_BYTES_OF_AN_OBJECT = 20000;
    private static final ThreadMXBean ROOM = (ThreadMXBean) ManagementFactory.getThreadMXBean();
    private static int wrong;

    public static void main(String[] args) {
        objects();
        for (int law = 0; law < 4; law++) {
            OldestCoins x = full(law);
            calls("order", i -> x.order(0, i % 7 - 1));
            calls("send", i -> x.send(0, i % 40, 7, i % 6));
            calls("where", i -> x.where(i % 40, 50));
            calls("gain", i -> x.gain(i % 4, i % 40, i % 100));
            calls("shows", i -> x.shows(i % 40, i % 100));
            calls("least", i -> x.least(0, 4, 5, 1 + i));
            calls("lent", i -> x.lent(0, 4, 1 + i, 1, 5, 2 + i));
            calls("even", i -> x.even(0, i));
            calls("seen", i -> x.seen(0, 1, 0, 4, 10, 3, 2, -1));
            calls("image", i -> i % 2 == 0 ? x.image() : x.restore());
            calls("sheet", i -> x.sheet(1 + i % 3, i % 3, 24));
            calls("film", i -> x.film(4 + i % 4, 1, 1, 0));
            calls("type, day, purse", i -> i % 3 == 0 ? x.type(0x303e343a31L, 5) : i % 3 == 1 ? x.day() : x.purse(0));
            calls("run", i -> x.run(50));
            calls("bill", i -> x.bill(i % 4, 4 + i % 4, 1 + i % 9));
        }
        System.out.println("the dearest calls, " + wrong + " too dear");
        if (wrong != 0) {
            System.exit(1);
        }
    }

    /** 40 coins, six errands none of which comes out even soon, a day of 24 bills that goes on. */
    private static OldestCoins full(int law) {
        OldestCoins x = new OldestCoins();
        x.rule(law);
        for (int i = 0; i < 40; i++) {
            x.coin(i < 24 ? i % 2 : 4 + i % 4, 1 + i * 7 % 9, i * 37 % 100, i % 4);
        }
        for (int i = 0; i < 6; i++) {
            x.errand(4 + i % 3, 7 + 3 * i);
        }
        StringBuilder day = new StringBuilder();
        for (int i = 0; i < 24; i++) {
            day.append(i == 0 ? "" : ",").append(i % 2).append('>').append(4 + i % 4).append(":1");
        }
        Check.dayOf(x, day.toString());
        x.sheet(0, 1, 4);
        for (int i = 0; i < 4; i++) {
            x.item(0, 1, i, 2 + i);
        }
        return x;
    }

    private static long used() {
        return ROOM.getThreadAllocatedBytes(Thread.currentThread().getId());
    }

    private static void objects() {
        OldestCoins[] all = new OldestCoins[CALLS];
        long before = used();
        for (int i = 0; i < CALLS; i++) {
            all[i] = new OldestCoins();
        }
        long each = (used() - before) / CALLS;
        if (each > MOST_BYTES_OF_AN_OBJECT) {
            wrong++;
            System.out.println("an object has " + each + " bytes");
        }
    }

    private static void calls(String name, IntUnaryOperator call) {
        long start = System.nanoTime();
        long before = used();
        for (int i = 0; i < CALLS; i++) {
            call.applyAsInt(i);
        }
        long each = (used() - before) / CALLS;
        long seconds = (System.nanoTime() - start) / 1_000_000_000;
        if (each > MOST_BYTES_OF_A_CALL || seconds > MOST_SECONDS) {
            wrong++;
            System.out.println(name + " took " + seconds + " s, and " + each + " bytes a call");
        }
    }
}
