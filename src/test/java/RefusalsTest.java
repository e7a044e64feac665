import java.util.List;
import java.util.function.Supplier;
import java.util.function.ToIntFunction;

/** "Refusals are answers, of several the first that a call names ... What is refused changes nothing, but as told." */
public final class RefusalsTest {
    private static final int BAD = -1, NOT = -2, FULL = -3, NONE = -4, NULL = -11, CAST = -12, INDEX = -13, SIZE = -14;
    private static final Check c = new Check();

    public static void main(String[] args) {
        constants();
        badFirst();
        machineInOrder();
        seenInOrder();
        refusedInBusyTown();
        refusedInFullTown();
        refusedInNewTown();
        askedChangesNothing();
        sameAgain();
        asTold();
        c.end();
    }

    private static void constants() {
        c.part("BAD -1, NOT -2, FULL -3, NONE -4, NULL -11, CAST -12, INDEX -13, SIZE -14");
        c.due("BAD", OldestCoins.BAD, -1);
        c.due("NOT", OldestCoins.NOT, -2);
        c.due("FULL", OldestCoins.FULL, -3);
        c.due("NONE", OldestCoins.NONE, -4);
        c.due("NULL", OldestCoins.NULL, -11);
        c.due("CAST", OldestCoins.CAST, -12);
        c.due("INDEX", OldestCoins.INDEX, -13);
        c.due("SIZE", OldestCoins.SIZE, -14);
    }

    /** One wrong number each; all others are right, but what the call names behind BAD holds, too. */
    private static void badFirst() {
        c.part("BAD ahead of all that a call names behind it");
        OldestCoins full = Towns.full();
        c.due("coin: FULL", full.coin(0, 1, 1, 4), BAD);
        c.due("type: FULL", full.type(Check.word("5y1"), 9), BAD);
        c.due("type: FULL", full.type(127, 1), BAD);
        c.due("purse: a FAULT", full.purse(8), BAD);
        c.due("errand: FULL", full.errand(4, 1000), BAD);
        OldestCoins fullOnly = Towns.full();
        fullOnly.purse(0);
        Check.typed(fullOnly, "5y1");
        c.due("purse: FULL", fullOnly.purse(8), BAD);
        c.due("the tape stays: now it is FULL", fullOnly.purse(7), FULL);
        OldestCoins x = new OldestCoins();
        c.due("of: NONE", x.of(0, 4), BAD);
        c.due("of: NONE", x.of(8, 2), BAD);
        c.due("bill: NOT", x.bill(0, 4, 1000), BAD);
        c.due("would: NOT", x.would(0, 4, 1, 4), BAD);
        c.due("even: NONE", x.even(4, 0), BAD);
        c.due("least: NONE", x.least(0, 3, 4, 1), BAD);
        c.due("order: NONE", x.order(0, 6), BAD);
        c.due("lent: NONE", x.lent(1, 4, 1, 1, 4, 1), BAD);
        x.coin(0, 1, 1, 0);
        c.due("send: NONE", x.send(0, 0, 4, 6), BAD);
        c.due("shows: NONE", x.shows(0, 100), BAD);
        c.due("seen: NULL", x.seen(0, 0, 0, 1, 1, 1, 0, 1), BAD);
        c.due("drop: NULL", x.drop(4), BAD);
        c.due("item: NULL", x.item(0, 3, 0, 1), BAD);
        c.due("film: NULL", x.film(8, 0, 0, 0), BAD);
        c.due("sheet: SIZE", x.sheet(0, 3, -1), BAD);
        c.due("sheet: SIZE", x.sheet(-1, 0, Integer.MIN_VALUE), BAD);
    }

    private static void machineInOrder() {
        c.part("NULL, CAST, INDEX in this order, behind BAD");
        OldestCoins x = Towns.busy();
        c.due("item, NULL and a wrong index", x.item(3, 0, 99, 1), NULL);
        c.due("film, NULL and a wrong index", x.film(0, 3, 0, 99), NULL);
        c.due("seen, NULL and a wrong index", x.seen(3, 0, 99, 1, 1, 1, 0, 0), NULL);
        c.due("item, CAST and a wrong index", x.item(0, 0, 99, 1), CAST);
        c.due("film, CAST and a wrong index", x.film(0, 0, 0, 99), CAST);
        c.due("seen, CAST and a wrong index", x.seen(0, 0, 99, 1, 1, 1, 0, 0), CAST);
        for (int sheet = 0; sheet < 3; sheet++) {
            for (int lane = 0; lane < 3; lane++) {
                boolean own = lane == (sheet + 1) % 3;
                c.due("item of lane " + lane, x.item(sheet, lane, 0, 5), own ? 1 : CAST);
                c.due("film by lane " + lane, x.film(7, sheet, lane, 0), own ? 0 : CAST);
                c.due("seen by lane " + lane, x.seen(sheet, lane, 0, 1, 5, 1, 0, 0), own ? 0 : CAST);
            }
        }
        x.sheet(0, 1, 0);
        c.due("a row of no items is not nothing", x.item(0, 0, 0, 1), CAST);
        c.due("a row of no items is not nothing", x.item(0, 1, 0, 1), INDEX);
    }

    private static void seenInOrder() {
        c.part("seen: BAD; NULL; CAST; INDEX; NOT; NONE");
        OldestCoins x = new OldestCoins();
        x.sheet(0, 1, 3);
        x.item(0, 1, 0, 5);
        c.due("INDEX, though a WORTH is 0", x.seen(0, 1, 1, 3, 5, 1, 0, -1), INDEX);
        c.due("CAST, though a WORTH is 0", x.seen(0, 2, 1, 1, 5, 1, 0, -1), CAST);
        c.due("BAD, though a WORTH is 0", x.seen(0, 1, 1, 1, 5, 1, 100, -1), BAD);
        c.due("NOT, though there are none", x.seen(0, 1, 0, 2, 999, 1, 0, -1), NOT);
        c.due("NOT, though more are paid than there are", x.seen(0, 1, 0, 2, 5, 4, 0, 1), NOT);
        c.due("NONE", x.seen(0, 1, 0, 1, 999, 1, 0, -1), NONE);
    }

    private static void refused(Supplier<OldestCoins> town, String call, int due, ToIntFunction<OldestCoins> made) {
        List<Integer> untouched = Probe.of(town.get());
        OldestCoins x = town.get();
        c.due(call, made.applyAsInt(x), due);
        c.due(call + " changes nothing, equal", untouched.equals(Probe.of(x)) ? 1 : 0, 1);
    }

    private static void busy(String call, int due, ToIntFunction<OldestCoins> made) {
        refused(Towns::busy, call, due, made);
    }

    private static void refusedInBusyTown() {
        c.part("what is refused changes nothing (a busy town)");
        busy("bill NOT", NOT, x -> x.bill(0, 4, 999));
        busy("bill NOT of an empty purse", NOT, x -> x.bill(2, 4, 1));
        busy("bill NOT by one", NOT, x -> x.bill(0, 5, 22));
        busy("would NOT", NOT, x -> x.would(0, 4, 999, 0));
        busy("older, one coin twice", BAD, x -> x.older(3, 3));
        busy("lent, one purse twice", BAD, x -> x.lent(1, 4, 1, 1, 5, 1));
        busy("of NONE", NONE, x -> x.of(2, 2));
        busy("even NONE", NONE, x -> x.even(0, 4));
        busy("least NONE", NONE, x -> x.least(2, 4, 5, 1));
        busy("order NONE", NONE, x -> x.order(0, 4));
        busy("send NONE, no i-th", NONE, x -> x.send(0, 0, 4, 4));
        busy("send NONE, by none", NONE, x -> x.send(0, 10, 4, 0));
        busy("lent NONE", NONE, x -> x.lent(0, 4, 999, 2, 5, 999));
        busy("shows NONE", NONE, x -> x.shows(10, 0));
        busy("drop NULL", NULL, x -> x.drop(3));
        busy("item NULL", NULL, x -> x.item(3, 1, 0, 7));
        busy("item CAST", CAST, x -> x.item(0, 2, 0, 7));
        busy("item INDEX", INDEX, x -> x.item(0, 1, 4, 7));
        busy("item INDEX", INDEX, x -> x.item(1, 2, -1, 7));
        busy("film NULL", NULL, x -> x.film(0, 3, 1, 0));
        busy("film CAST", CAST, x -> x.film(0, 0, 0, 0));
        busy("film INDEX: none of the four comes", INDEX, x -> x.film(0, 0, 1, 1));
        busy("film INDEX: none of the four comes", INDEX, x -> x.film(0, 1, 2, -1));
        busy("film INDEX", INDEX, x -> x.film(0, 2, 0, 4));
        busy("seen NULL", NULL, x -> x.seen(3, 1, 0, 1, 1, 1, 0, 0));
        busy("seen CAST", CAST, x -> x.seen(0, 0, 0, 1, 1, 1, 0, 0));
        busy("seen INDEX", INDEX, x -> x.seen(0, 1, 3, 2, 1, 1, 0, 0));
        busy("seen NONE", NONE, x -> x.seen(0, 1, 0, 4, 99, 4, 0, 0));
        busy("sheet SIZE", SIZE, x -> x.sheet(0, 0, -1));
        busy("sheet BAD", BAD, x -> x.sheet(0, 0, 25));
        busy("sheet SIZE of one that holds nothing", SIZE, x -> x.sheet(3, 0, -1));
    }

    private static void refusedInFullTown() {
        c.part("what is refused changes nothing (a full town)");
        refused(Towns::full, "coin FULL", FULL, x -> x.coin(0, 1, 1, 0));
        refused(Towns::full, "errand FULL", FULL, x -> x.errand(4, 1));
        refused(Towns::full, "type FULL", FULL, x -> x.type(Check.word("5"), 1));
        refused(Towns::full, "purse BAD", BAD, x -> x.purse(-1));
        refused(RefusalsTest::almostFull, "type FULL: none of 8 comes", FULL, x -> x.type(Check.word("4y1,5y1,"), 8));
        refused(RefusalsTest::almostFull, "type BAD", BAD, x -> x.type(31, 1));
    }

    /** A tape of 159 bytes, a purse of one coin in it. */
    private static OldestCoins almostFull() {
        OldestCoins x = Towns.busy();
        x.purse(1);
        Check.typed(x, " ".repeat(155) + "6y44");
        return x;
    }

    private static void refusedInNewTown() {
        c.part("what is refused changes nothing (a new town)");
        refused(OldestCoins::new, "restore NONE", NONE, x -> x.restore());
        refused(OldestCoins::new, "order NONE", NONE, x -> x.order(0, -1));
        refused(OldestCoins::new, "drop NULL", NULL, x -> x.drop(0));
        refused(OldestCoins::new, "gain BAD", -100001, x -> x.gain(0, 0, 0));
        refused(OldestCoins::new, "told BAD", BAD, x -> x.told(0, 0));
    }

    private static void asked(String call, ToIntFunction<OldestCoins> made) {
        List<Integer> untouched = Probe.of(Towns.busy());
        OldestCoins x = Towns.busy();
        made.applyAsInt(x);
        c.due(call + " changes nothing, equal", untouched.equals(Probe.of(x)) ? 1 : 0, 1);
    }

    /** Calls that only tell something. */
    private static void askedChangesNothing() {
        c.part("what is only asked");
        asked("told", x -> x.told(0, 4));
        asked("older", x -> x.older(0, 1));
        asked("of", x -> x.of(0, 2) + x.of(0, 3) + x.of(4, 0) + x.of(4, 1));
        asked("count", x -> x.count(0) + x.count(1) + x.count(2) + x.count(3));
        asked("would", x -> x.would(0, 4, 6, 0) + x.would(0, 4, 6, 1) + x.would(0, 4, 6, 2) + x.would(0, 4, 6, 3));
        asked("even", x -> x.even(0, -1) + x.even(0, 0));
        asked("least", x -> x.least(0, 4, 5, 5) + x.least(0, 4, 4, 7));
        asked("order", x -> x.order(0, -1) + x.order(0, 0) + x.order(1, 2));
        asked("send", x -> x.send(0, 0, 4, 0) + x.send(0, 3, 6, 1));
        asked("lent", x -> x.lent(0, 4, 9, 1, 5, 4) + x.lent(0, 4, 5, 2, 5, 9));
        asked("where", x -> x.where(0, 1) + x.where(3, 50));
        asked("gain", x -> x.gain(0, 0, 0) + x.gain(0, 1, 99) + x.gain(1, 4, 50));
        asked("shows", x -> x.shows(0, 0) + x.shows(1, 99) + x.shows(4, 50));
        asked("seen", x -> x.seen(0, 1, 0, 4, 11, 2, 0, -1) + x.seen(0, 1, 0, 4, 11, 2, 0, 3));
    }

    private static void same(String call, ToIntFunction<OldestCoins> made) {
        OldestCoins x = Towns.busy();
        OldestCoins untouched = Towns.busy();
        c.due(call + " answered again", made.applyAsInt(x), made.applyAsInt(x));
        made.applyAsInt(x);
        c.due(call + " answered by another object", made.applyAsInt(x), made.applyAsInt(untouched));
    }

    private static void sameAgain() {
        c.part("what is only asked is answered alike again");
        same("order", x -> x.order(0, -1));
        same("order", x -> x.order(0, 2));
        same("send", x -> x.send(0, 3, 4, 0));
        same("least", x -> x.least(0, 4, 5, 5));
        same("lent", x -> x.lent(0, 4, 9, 1, 5, 4));
        same("where", x -> x.where(3, 50));
        same("gain", x -> x.gain(0, 3, 0));
        same("shows", x -> x.shows(3, 0));
        same("would", x -> x.would(0, 4, 6, 2));
        same("even", x -> x.even(0, 1));
    }

    /** What the document tells of refusals that do change something: THE TAPE is empty then. */
    private static void asTold() {
        c.part("but as told");
        OldestCoins fault = Towns.busy();
        Check.typed(fault, ";");
        c.due("purse, a FAULT", fault.purse(0), -24);
        OldestCoins dayFault = Towns.busy();
        c.due("day, a FAULT", dayFault.day(), -20);
        OldestCoins emptied = Towns.busy();
        c.due("a purse that is taken", emptied.purse(7), 1);
        c.due("the tape is empty", emptied.type(' ', 1), 1);
        c.due("the tape is empty behind a FAULT of purse", fault.type(' ', 1), 1);
        c.due("the tape is empty behind a FAULT of day", dayFault.type(' ', 1), 1);
        List<Integer> rest = Probe.of(fault);
        c.due("purse and day with a FAULT change nothing else, equal", rest.equals(Probe.of(dayFault)) ? 1 : 0, 1);
        OldestCoins untouched = Towns.busy();
        untouched.day();
        untouched.type(' ', 1);
        c.due("nor does a FAULT behind another", untouched.day(), -21);
        untouched.type(' ', 1);
        c.due("equal", rest.equals(Probe.of(untouched)) ? 1 : 0, 1);
    }
}
