/** The document's part 1 and promises 1 to 9, 12, sentence by sentence: its edges. */
public final class CoinsEdgesTest {
    private static final int BAD = -1, FULL = -3, NONE = -4, NULL = -11;
    private static final Check c = new Check();

    public static void main(String[] args) {
        aNewObject();
        coinsAsTheyCome();
        stampIsTheYearAtFirst();
        yearsAndStamps();
        wornAndBent();
        asOld();
        ofOneHolder();
        laws();
        lawsOfAsOldOnes();
        lawsOfLikeWorth();
        firstBehindEachChange();
        stampAnswersWhatItWas();
        giveAnswersWhoseItWas();
        ruleAnswersWhatItWas();
        ofAnEmptyHolder();
        ofAFullHolder();
        tapeIsFull();
        tapeHasTheHighestFirst();
        counts();
        objectsAreApart();
        c.end();
    }

    private static void aNewObject() {
        c.part("OldestCoins(): No coins.");
        OldestCoins x = new OldestCoins();
        for (int what = 0; what < 4; what++) {
            c.due("count " + what, x.count(what), 0);
        }
        for (int holder = 0; holder < 8; holder++) {
            c.due("how many", x.of(holder, 0), 0);
            c.due("worth", x.of(holder, 1), 0);
            c.due("paid first", x.of(holder, 2), NONE);
            c.due("back first", x.of(holder, 3), NONE);
        }
        for (int coin = 0; coin < 40; coin++) {
            c.due("told", x.told(coin, 4), BAD);
        }
        c.due("THE LAW (0 at first)", x.rule(3), 0);
        c.due("no errands", x.home(), 0);
        c.due("no bills of the day", x.run(50), 0);
        c.due("no image", x.restore(), NONE);
        c.due("an empty tape", x.type(' ', 1), 1);
        for (int sheet = 0; sheet < 4; sheet++) {
            c.due("sheets: nothing (at first)", x.drop(sheet), NULL);
        }
    }

    private static void coinsAsTheyCome() {
        c.part("COINS 0 .. 39, as they come; FULL: 40");
        OldestCoins x = new OldestCoins();
        for (int i = 0; i < 39; i++) {
            c.due("coin", x.coin(i % 8, 1, 0, 0), i);
            c.due("the next one is not there yet", x.told(i + 1, 0), BAD);
        }
        c.due("the last one", x.coin(0, 99, 99, 3), 39);
        c.due("one more", x.coin(0, 99, 99, 3), FULL);
        c.due("one more, the least", x.coin(0, 1, 0, 0), FULL);
        c.due("count", x.count(0), 40);
        c.due("the last one", x.told(39, 0), 99);
        c.due("none behind it", x.told(40, 0), BAD);
        c.due("paid coins do not make room", x.bill(0, 4, 1), 0);
        c.due("one more", x.coin(0, 1, 0, 0), FULL);
    }

    private static void stampIsTheYearAtFirst() {
        c.part("a STAMP (0 .. 99; the YEAR at first)");
        for (int kind = 0; kind < 4; kind++) {
            OldestCoins x = new OldestCoins();
            c.due("year 0", x.coin(0, 5, 0, kind), 0);
            c.due("year 99", x.coin(0, 5, 99, kind), 1);
            c.due("year 37", x.coin(0, 5, 37, kind), 2);
            int[] years = {0, 99, 37};
            for (int coin = 0; coin < 3; coin++) {
                c.due("year, kind " + kind, x.told(coin, 1), years[coin]);
                c.due("stamp, kind " + kind, x.told(coin, 2), years[coin]);
                c.due("kind", x.told(coin, 3), kind);
            }
        }
    }

    private static void yearsAndStamps() {
        c.part("By law the YEAR counts of TRUE ones, the STAMP of FORGED ones");
        OldestCoins x = new OldestCoins();
        x.coin(0, 5, 50, 0);
        x.coin(0, 5, 50, 1);
        c.due("as old: the lesser number", x.older(1, 0), 0);
        x.stamp(1, 49);
        c.due("the stamp of a forged one: one less", x.older(0, 1), 1);
        x.stamp(1, 51);
        c.due("the stamp of a forged one: one more", x.older(0, 1), 0);
        x.stamp(1, 50);
        x.stamp(0, 99);
        c.due("the stamp of a true one does not count", x.older(0, 1), 0);
        x.stamp(0, 0);
        x.coin(0, 5, 49, 0);
        c.due("the stamp of a true one does not count", x.older(0, 2), 2);
        x.stamp(1, 0);
        c.due("the year of a forged one does not count", x.older(1, 2), 1);
        OldestCoins y = Towns.of("0 5y0,5y1,5y98,5y99,5y50f0,5y50f99");
        int[][] due = {{0, 1, 0}, {2, 3, 2}, {0, 3, 0}, {1, 4, 4}, {2, 5, 2}, {4, 5, 4}, {0, 4, 0}, {3, 5, 3}};
        for (int[] d : due) {
            c.due("older " + d[0] + " " + d[1], y.older(d[0], d[1]), d[2]);
            c.due("older " + d[1] + " " + d[0], y.older(d[1], d[0]), d[2]);
        }
    }

    private static void wornAndBent() {
        c.part("WORN ones are older than all these, BENT ones newer than all others");
        OldestCoins x = Towns.of("0 5y0,5y0f0,5y99w,5y0b,5y99,5y0f99,5y0w,5y99b");
        int[] worn = {2, 6};
        int[] bent = {3, 7};
        int[] plain = {0, 1, 4, 5};
        for (int w : worn) {
            for (int p : plain) {
                c.due("worn " + w + " and " + p, x.older(w, p), w);
                c.due("worn " + w + " and " + p, x.older(p, w), w);
            }
            for (int b : bent) {
                c.due("worn " + w + " and bent " + b, x.older(w, b), w);
                c.due("worn " + w + " and bent " + b, x.older(b, w), w);
            }
        }
        for (int b : bent) {
            for (int p : plain) {
                c.due("bent " + b + " and " + p, x.older(b, p), p);
                c.due("bent " + b + " and " + p, x.older(p, b), p);
            }
        }
        c.due("paid first by law 0", x.of(0, 2), 2);
        c.due("back first by law 0", x.of(0, 3), 7);
        x.stamp(2, 99);
        x.stamp(3, 0);
        c.due("a stamp does not count of worn ones", x.older(2, 1), 2);
        c.due("a stamp does not count of bent ones", x.older(3, 5), 5);
    }

    private static void asOld() {
        c.part("Of two that are as old that of the lesser number is OLDER.");
        OldestCoins x = Towns.of("0 9y9,1y9,5y9f9,5y0f9,5y80w,5y10w,5y80b,5y10b,5y9");
        int[] like = {0, 1, 2, 3, 8};
        for (int a = 0; a < like.length; a++) {
            for (int b = a + 1; b < like.length; b++) {
                c.due("as old " + like[a] + " " + like[b], x.older(like[a], like[b]), like[a]);
                c.due("as old " + like[b] + " " + like[a], x.older(like[b], like[a]), like[a]);
            }
        }
        c.due("two worn ones", x.older(4, 5), 4);
        c.due("two worn ones", x.older(5, 4), 4);
        c.due("two bent ones", x.older(6, 7), 6);
        c.due("two bent ones", x.older(7, 6), 6);
        for (int coin = 0; coin < 9; coin++) {
            c.due("older, two unlike COINS", x.older(coin, coin), BAD);
        }
    }

    private static void ofOneHolder() {
        c.part("a COIN is of one HOLDER (as it comes)");
        OldestCoins x = new OldestCoins();
        for (int holder = 0; holder < 8; holder++) {
            x.coin(holder, 10 + holder, 5, 0);
            c.due("holder", x.told(holder, 4), holder);
        }
        for (int holder = 0; holder < 8; holder++) {
            c.due("one each", x.of(holder, 0), 1);
            c.due("its worth", x.of(holder, 1), 10 + holder);
        }
        for (int to = 1; to < 8; to++) {
            x.give(0, to);
            c.due("no more", x.of(to - 1, 0), to == 1 ? 0 : 1);
            c.due("one more", x.of(to, 0), 2);
        }
        c.due("as many as before", x.count(0), 8);
    }

    /** Coins of unlike worths and years: 0 (5, 30), 1 (9, 10), 2 (1, 20), 3 (3, 40). */
    private static void laws() {
        c.part("THE LAW: how one pays, and what a till gives back");
        int[][] pays = {{1, 2, 0, 3}, {3, 0, 2, 1}, {2, 3, 0, 1}, {1, 0, 3, 2}};
        for (int law = 0; law < 4; law++) {
            for (int holder = 0; holder < 8; holder += 3) {
                OldestCoins x = Towns.of(holder + " 5y30,9y10,1y20,3y40");
                x.rule(law);
                paidOneByOne(x, holder, pays[law], "law " + law);
                OldestCoins y = Towns.of(holder + " 5y30,9y10,1y20,3y40");
                y.rule(law);
                backOneByOne(y, holder, reversed(pays[law]), "law " + law);
            }
        }
    }

    private static int[] reversed(int[] row) {
        int[] all = new int[row.length];
        for (int i = 0; i < row.length; i++) {
            all[i] = row[row.length - 1 - i];
        }
        return all;
    }

    /** Each that would be paid first is given away, so that the next one is the first. */
    private static void paidOneByOne(OldestCoins x, int holder, int[] due, String what) {
        for (int coin : due) {
            c.due("paid first, " + what, x.of(holder, 2), coin);
            x.give(coin, (holder + 1) % 8);
        }
        c.due("none is left", x.of(holder, 2), NONE);
    }

    private static void backOneByOne(OldestCoins x, int holder, int[] due, String what) {
        for (int coin : due) {
            c.due("back first, " + what, x.of(holder, 3), coin);
            x.give(coin, (holder + 1) % 8);
        }
        c.due("none is left", x.of(holder, 3), NONE);
    }

    private static void lawsOfAsOldOnes() {
        c.part("0 the OLDER ones first, 1 just the other way round (as old ones)");
        String as = "6 5y30,4y30,7y30f30,3y1w,2y2w,2y9b,3y8b";
        int[] older = {3, 4, 0, 1, 2, 5, 6};
        for (int law = 0; law < 2; law++) {
            int[] pays = law == 0 ? older : reversed(older);
            OldestCoins x = Towns.of(as);
            x.rule(law);
            paidOneByOne(x, 6, pays, "law " + law);
            OldestCoins y = Towns.of(as);
            y.rule(law);
            backOneByOne(y, 6, reversed(pays), "law " + law);
        }
    }

    private static void lawsOfLikeWorth() {
        c.part("2 those of less WORTH first, 3 those of more WORTH first (of like ones the OLDER)");
        String like = "5 5y30,2y9,5y10,2y9,5y99w,2y3b,5y30,9y1";
        int[] less = {1, 3, 5, 4, 2, 0, 6, 7};
        int[] more = {7, 4, 2, 0, 6, 1, 3, 5};
        for (int law = 2; law < 4; law++) {
            OldestCoins x = Towns.of(like);
            x.rule(law);
            paidOneByOne(x, 5, law == 2 ? less : more, "law " + law);
            OldestCoins y = Towns.of(like);
            y.rule(law);
            backOneByOne(y, 5, law == 2 ? more : less, "law " + law);
        }
        OldestCoins z = Towns.of("0 2y0w,1y99b");
        z.rule(2);
        c.due("less WORTH, though it is the newest", z.of(0, 2), 1);
        c.due("more WORTH, though it is the oldest", z.of(0, 3), 0);
        z.coin(0, 3, 99, 3);
        z.rule(3);
        c.due("more WORTH, though it is the newest", z.of(0, 2), 2);
    }

    /** What is asked in between must not stay as it was. */
    private static void firstBehindEachChange() {
        c.part("of: which would be paid first, behind each call that changes it");
        OldestCoins x = Towns.of("0 5y50");
        c.due("at first", x.of(0, 2), 0);
        x.coin(0, 5, 40, 0);
        c.due("behind coin", x.of(0, 2), 1);
        Check.purseOf(x, 0, "5y30f60,5y60f30");
        c.due("behind purse", x.of(0, 2), 3);
        x.stamp(2, 20);
        c.due("behind stamp", x.of(0, 2), 2);
        x.give(2, 1);
        c.due("behind give", x.of(0, 2), 3);
        x.image();
        x.rule(1);
        c.due("behind rule", x.of(0, 2), 0);
        c.due("behind rule, back", x.of(0, 3), 3);
        x.stamp(3, 99);
        c.due("behind stamp", x.of(0, 2), 3);
        x.bill(0, 4, 5);
        c.due("behind bill", x.of(0, 2), 0);
        c.due("behind bill, the till", x.of(4, 3), 3);
        Check.dayOf(x, "0>4:5");
        x.run(1);
        c.due("behind run", x.of(0, 2), 1);
        x.restore();
        c.due("behind restore", x.of(0, 2), 3);
        c.due("behind restore, back", x.of(0, 3), 0);
    }

    private static void stampAnswersWhatItWas() {
        c.part("stamp: The STAMP of a COIN: what it was.");
        OldestCoins x = Towns.of("0 5y7,5y8f9");
        c.due("at first the year", x.stamp(0, 0), 7);
        c.due("the least", x.stamp(0, 99), 0);
        c.due("the most", x.stamp(0, 99), 99);
        c.due("told by a text", x.stamp(1, 4), 9);
        c.due("refused", x.stamp(1, 100), BAD);
        c.due("what was refused is not", x.stamp(1, 5), 4);
        c.due("the year stays", x.told(1, 1), 8);
        c.due("the kind stays", x.told(0, 3), 0);
    }

    private static void giveAnswersWhoseItWas() {
        c.part("give: A COIN goes to a HOLDER: whose it was.");
        OldestCoins x = Towns.of("0 5y7");
        c.due("give", x.give(0, 7), 0);
        c.due("to whose it is", x.give(0, 7), 7);
        c.due("refused", x.give(0, 8), BAD);
        c.due("what was refused is not", x.give(0, 0), 7);
    }

    private static void ruleAnswersWhatItWas() {
        c.part("rule: THE LAW: what it was.");
        OldestCoins x = new OldestCoins();
        c.due("0 at first", x.rule(3), 0);
        c.due("refused", x.rule(4), BAD);
        c.due("refused", x.rule(-1), BAD);
        c.due("what was refused is not", x.rule(3), 3);
        c.due("rule", x.rule(2), 3);
        c.due("rule", x.rule(1), 2);
        c.due("rule", x.rule(0), 1);
    }

    private static void ofAnEmptyHolder() {
        c.part("of: NONE: it has none (2, 3)");
        OldestCoins x = Towns.of("3 5y7");
        for (int law = 0; law < 4; law++) {
            x.rule(law);
            c.due("how many", x.of(2, 0), 0);
            c.due("worth", x.of(2, 1), 0);
            c.due("paid first", x.of(2, 2), NONE);
            c.due("back first", x.of(2, 3), NONE);
            c.due("the only one is paid first", x.of(3, 2), 0);
            c.due("the only one is back first", x.of(3, 3), 0);
        }
    }

    private static void ofAFullHolder() {
        c.part("of a HOLDER that has all 40");
        OldestCoins x = new OldestCoins();
        for (int i = 0; i < 40; i++) {
            x.coin(7, 99, i == 39 ? 0 : 40, 0);
        }
        c.due("how many", x.of(7, 0), 40);
        c.due("worth", x.of(7, 1), 3960);
        c.due("worth of all", x.count(1), 3960);
        c.due("the last one is the oldest", x.of(7, 2), 39);
        c.due("of as old ones the greatest number is the newest", x.of(7, 3), 38);
        x.rule(2);
        c.due("of like ones the older", x.of(7, 2), 39);
        c.due("of like ones the older", x.of(7, 3), 39);
        x.rule(1);
        c.due("just the other way round", x.of(7, 2), 38);
        c.due("just the other way round", x.of(7, 3), 39);
    }

    private static void tapeIsFull() {
        c.part("type: how many it has; FULL: 160");
        OldestCoins x = new OldestCoins();
        for (int i = 1; i <= 20; i++) {
            c.due("by 8", x.type(Check.word("        "), 8), 8 * i);
        }
        for (int n = 1; n <= 8; n++) {
            c.due("FULL, " + n, x.type(Check.word("        "), n), FULL);
        }
        c.due("day, all blanks", x.day(), -180);
        for (int room = 1; room <= 7; room++) {
            OldestCoins y = new OldestCoins();
            Check.typed(y, " ".repeat(160 - room));
            c.due("one more than there is room for", y.type(Check.word("        "), room + 1), FULL);
            c.due("as many as there is room for", y.type(Check.word("        "), room), 160);
            c.due("no room", y.type(' ', 1), FULL);
        }
    }

    private static void tapeHasTheHighestFirst() {
        c.part("type: The n lowest bytes (1 .. 8) of w, of these the highest first");
        String[] texts = {"1y2", "12y3", "12y34", "12y34w", "12y34f5", "12y34f56"};
        for (String text : texts) {
            OldestCoins x = new OldestCoins();
            int n = text.length();
            long above = n < 8 ? 0x7f00000000000000L : 0;
            c.due("type " + text, x.type(above | Check.word(text), n), n);
            c.due("purse " + text, x.purse(1), 1);
            c.due("worth of " + text, x.told(0, 0), n == 3 ? 1 : 12);
            c.due("year of " + text, x.told(0, 1), n == 3 ? 2 : n == 4 ? 3 : 34);
        }
        OldestCoins y = new OldestCoins();
        for (String sign : "98y76f54".split("")) {
            y.type(Check.word("x" + sign), 1);
        }
        c.due("sign by sign", y.purse(4), 1);
        int[] due = {98, 76, 54, 1, 4};
        for (int what = 0; what < 5; what++) {
            c.due("told " + what, y.told(0, what), due[what]);
        }
    }

    private static void counts() {
        c.part("count: How many: 0 COINS, 1 WORTH of all, 2 BILLS of THE DAY, 3 ERRANDS");
        OldestCoins x = Towns.full();
        int worth = 0;
        for (int coin = 0; coin < 40; coin++) {
            worth += x.told(coin, 0);
        }
        int[] due = {40, worth, 24, 6};
        for (int what = 0; what < 4; what++) {
            c.due("full, count " + what, x.count(what), due[what]);
        }
        x.home();
        x.give(0, 7);
        x.bill(2, 7, 3);
        int[] later = {40, worth, 24, 0};
        for (int what = 0; what < 4; what++) {
            c.due("whoever has them, count " + what, x.count(what), later[what]);
        }
        c.due("BAD", x.count(4), BAD);
    }

    private static void objectsAreApart() {
        c.part("no object knows of another");
        OldestCoins x = Towns.busy();
        OldestCoins y = new OldestCoins();
        c.due("count", y.count(0), 0);
        c.due("law", y.rule(0), 0);
        c.due("restore", y.restore(), NONE);
        c.due("drop", y.drop(0), NULL);
        c.due("type", y.type(' ', 1), 1);
        c.due("count", x.count(0), 11);
    }
}
