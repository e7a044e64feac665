/** For each promise of the document: ordinary inputs, the edges it names, and wrong inputs. */
public final class PromisesTest {
    private static final int BAD = -1, NOT = -2, FULL = -3, NONE = -4, NULL = -11, CAST = -12, INDEX = -13, SIZE = -14;
    private static final Check c = new Check();

    public static void main(String[] args) {
        promise1();
        promise2();
        promise3();
        promise4();
        promise5();
        promise6();
        promise7();
        promise8();
        promise9();
        promise10();
        promise11();
        promise12();
        promise13();
        promise13Laws();
        promise14();
        promise15();
        promise16();
        promise17And18();
        promise19();
        promise20();
        promise21();
        promise22();
        promise23();
        promise24();
        promise25();
        promise26And27();
        promise28();
        promise29();
        promise30();
        promise31();
        promise32();
        c.end();
    }

    private static OldestCoins made(String purse0, String till4) {
        OldestCoins x = new OldestCoins();
        if (!purse0.isEmpty()) {
            c.due("purse(0)", Check.purseOf(x, 0, purse0), purse0.split(",").length);
        }
        if (!till4.isEmpty()) {
            c.due("purse(4)", Check.purseOf(x, 4, till4), till4.split(",").length);
        }
        return x;
    }

    private static void promise1() {
        c.part("1 a new object");
        OldestCoins x = new OldestCoins();
        for (int what = 0; what < 4; what++) {
            c.due("count", x.count(what), 0);
        }
        for (int holder = 0; holder < 8; holder++) {
            c.due("of 0", x.of(holder, 0), 0);
            c.due("of 1", x.of(holder, 1), 0);
        }
        c.due("told", x.told(0, 0), BAD);
        c.due("rule", x.rule(0), 0);
        c.due("restore", x.restore(), NONE);
        c.due("day", x.day(), -20);
        c.due("home", x.home(), 0);
        for (int sheet = 0; sheet < 4; sheet++) {
            c.due("drop", x.drop(sheet), NULL);
        }
    }

    private static void promise2() {
        c.part("2 coin");
        OldestCoins x = new OldestCoins();
        int[][] wrong = {{-1, 1, 1, 0}, {8, 1, 1, 0}, {0, 0, 1, 0}, {0, 100, 1, 0}, {0, 1, -1, 0}, {0, 1, 100, 0},
            {0, 1, 1, -1}, {0, 1, 1, 4}, {Integer.MIN_VALUE, 1, 1, 0}, {0, Integer.MAX_VALUE, 1, 0}};
        for (int[] w : wrong) {
            c.due("coin", x.coin(w[0], w[1], w[2], w[3]), BAD);
        }
        c.due("count", x.count(0), 0);
        c.due("coin", x.coin(0, 1, 0, 0), 0);
        c.due("coin", x.coin(7, 99, 99, 3), 1);
        for (int i = 2; i < 40; i++) {
            c.due("coin", x.coin(i % 8, i, i, i % 4), i);
        }
        c.due("coin", x.coin(0, 1, 1, 0), FULL);
        c.due("coin, BAD ahead of FULL", x.coin(8, 1, 1, 0), BAD);
        c.due("count", x.count(0), 40);
        c.due("told", x.told(39, 4), 7);
        c.due("told, the STAMP is the YEAR at first", x.told(39, 2), 39);
    }

    private static void promise3() {
        c.part("3 stamp");
        OldestCoins x = made("5y9,5y8f70", "");
        c.due("stamp", x.stamp(0, 0), 9);
        c.due("stamp", x.stamp(0, 99), 0);
        c.due("told stamp", x.told(0, 2), 99);
        c.due("told year stays", x.told(0, 1), 9);
        c.due("told kind stays", x.told(0, 3), 0);
        c.due("older, the STAMP of a TRUE one does not count", x.older(0, 1), 0);
        c.due("stamp", x.stamp(1, 3), 70);
        c.due("older", x.older(0, 1), 1);
        c.due("of, who pays first", x.of(0, 2), 1);
        c.due("stamp", x.stamp(1, 50), 3);
        c.due("of, who pays first", x.of(0, 2), 0);
        c.due("stamp", x.stamp(2, 3), BAD);
        c.due("stamp", x.stamp(-1, 3), BAD);
        c.due("stamp", x.stamp(0, -1), BAD);
        c.due("stamp", x.stamp(0, 100), BAD);
        c.due("told stamp", x.told(0, 2), 99);
    }

    private static void promise4() {
        c.part("4 told");
        OldestCoins x = new OldestCoins();
        x.coin(6, 42, 17, 3);
        int[] due = {42, 17, 17, 3, 6};
        for (int what = 0; what < 5; what++) {
            c.due("told " + what, x.told(0, what), due[what]);
        }
        c.due("told", x.told(0, 5), BAD);
        c.due("told", x.told(0, -1), BAD);
        c.due("told", x.told(1, 0), BAD);
        c.due("told", x.told(-1, 0), BAD);
        c.due("told", x.told(40, 0), BAD);
    }

    private static void promise5() {
        c.part("5 give");
        OldestCoins x = made("5y9", "");
        c.due("give", x.give(0, 7), 0);
        c.due("give", x.give(0, 3), 7);
        c.due("told", x.told(0, 4), 3);
        c.due("give to itself", x.give(0, 3), 3);
        c.due("give", x.give(0, 8), BAD);
        c.due("give", x.give(0, -1), BAD);
        c.due("give", x.give(1, 0), BAD);
        c.due("give", x.give(-1, 0), BAD);
        c.due("of", x.of(3, 0), 1);
        c.due("of", x.of(0, 0), 0);
    }

    private static void promise6() {
        c.part("6 older");
        OldestCoins x = made("5y9,5y8f70,5y99w,5y0b,5y9,5y0w,5y1b,5y0,5y50f9", "5y99");
        c.due("years", x.older(0, 7), 7);
        c.due("a forged one by its stamp", x.older(0, 1), 0);
        c.due("a worn one", x.older(7, 2), 2);
        OldestCoins edges = made("5y0,5y9f0,5y50w,5y50b,5y99,5y0f99", "");
        c.due("a worn one and the first year", edges.older(0, 2), 2);
        c.due("a worn one and the first stamp", edges.older(1, 2), 2);
        c.due("a bent one and the last year", edges.older(3, 4), 4);
        c.due("a bent one and the last stamp", edges.older(3, 5), 5);
        c.due("a bent one", x.older(3, 9), 9);
        c.due("as old", x.older(0, 4), 0);
        c.due("as old", x.older(4, 0), 0);
        c.due("as old by stamp and year", x.older(8, 0), 0);
        c.due("as old by stamp and year", x.older(8, 4), 4);
        c.due("two worn ones", x.older(5, 2), 2);
        c.due("two bent ones", x.older(6, 3), 3);
        c.due("worn and bent", x.older(3, 2), 2);
        c.due("the same", x.older(1, 1), BAD);
        c.due("none", x.older(0, 10), BAD);
        c.due("none", x.older(-1, 0), BAD);
    }

    private static void promise7() {
        c.part("7 rule");
        OldestCoins x = made("5y9,5y8", "");
        c.due("rule", x.rule(1), 0);
        c.due("of", x.of(0, 2), 0);
        c.due("rule", x.rule(3), 1);
        c.due("rule", x.rule(4), BAD);
        c.due("rule", x.rule(-1), BAD);
        c.due("rule", x.rule(2), 3);
        c.due("rule", x.rule(0), 2);
        c.due("of", x.of(0, 2), 1);
    }

    private static void promise8() {
        c.part("8 of");
        OldestCoins x = made("5y3,2y1,5y2,9y4", "");
        int[][] due = {{1, 3}, {3, 1}, {1, 3}, {3, 1}};
        for (int law = 0; law < 4; law++) {
            x.rule(law);
            c.due("how many", x.of(0, 0), 4);
            c.due("worth", x.of(0, 1), 21);
            c.due("first paid, law " + law, x.of(0, 2), due[law][0]);
            c.due("first back, law " + law, x.of(0, 3), due[law][1]);
        }
        x.give(1, 7);
        x.give(3, 7);
        int[][] like = {{2, 0}, {0, 2}, {2, 2}, {2, 2}};
        for (int law = 0; law < 4; law++) {
            x.rule(law);
            c.due("first paid of like worth, law " + law, x.of(0, 2), like[law][0]);
            c.due("first back of like worth, law " + law, x.of(0, 3), like[law][1]);
        }
        OldestCoins y = made("5y3,5y3", "");
        int[][] alike = {{0, 1}, {1, 0}, {0, 0}, {0, 0}};
        for (int law = 0; law < 4; law++) {
            y.rule(law);
            c.due("first paid of as old ones, law " + law, y.of(0, 2), alike[law][0]);
            c.due("first back of as old ones, law " + law, y.of(0, 3), alike[law][1]);
        }
        c.due("none", x.of(1, 2), NONE);
        c.due("none", x.of(1, 3), NONE);
        c.due("none", x.of(1, 0), 0);
        c.due("holder", x.of(8, 0), BAD);
        c.due("holder", x.of(-1, 0), BAD);
        c.due("what", x.of(0, 4), BAD);
        c.due("what, BAD ahead of NONE", x.of(1, -1), BAD);
    }

    private static void promise9() {
        c.part("9 type");
        OldestCoins x = new OldestCoins();
        c.due("n", x.type(Check.word("5y1"), 0), BAD);
        c.due("n", x.type(Check.word("5y1"), 9), BAD);
        c.due("n", x.type(Check.word("5y1"), -1), BAD);
        c.due("a byte below 32", x.type(31, 1), BAD);
        c.due("a byte above 126", x.type(127, 1), BAD);
        c.due("a byte above 127", x.type(0x80, 1), BAD);
        c.due("a byte of 0", x.type(Check.word("5y1"), 4), BAD);
        c.due("edges", x.type(0x207e, 2), 2);
        c.due("the highest first, those above do not count", x.type(0xff00000000000000L | Check.word("y"), 1), 3);
        c.due("fault at the first sign", x.purse(0), -21);
        Check.typed(x, "12");
        c.due("the highest first", x.type(Check.word("y34"), 3), 5);
        c.due("a purse", x.purse(0), 1);
        c.due("worth", x.told(0, 0), 12);
        c.due("year", x.told(0, 1), 34);
        for (int i = 1; i <= 19; i++) {
            c.due("type", x.type(Check.word("        "), 8), 8 * i);
        }
        c.due("type", x.type(Check.word("    5y1"), 7), 159);
        c.due("FULL", x.type(Check.word("  "), 2), FULL);
        c.due("BAD ahead of FULL", x.type(Check.word(" ") << 8, 2), BAD);
        c.due("160", x.type(Check.word("1"), 1), 160);
        c.due("FULL", x.type(Check.word(" "), 1), FULL);
        c.due("the tape is read to its end", x.purse(1), 1);
        c.due("year", x.told(1, 1), 11);
        c.due("empty then", x.type(Check.word(" "), 1), 1);
    }

    private static void promise10() {
        c.part("10 purse");
        OldestCoins x = new OldestCoins();
        c.due("purse", Check.purseOf(x, 5, "1y0,99y99f0,7y8w,9y10b, 3 y 4 f 5 ,07y007"), 6);
        int[][] due = {{1, 0, 0, 0, 5}, {99, 99, 0, 1, 5}, {7, 8, 8, 2, 5}, {9, 10, 10, 3, 5}, {3, 4, 5, 1, 5}, {7, 7, 7, 0, 5}};
        for (int coin = 0; coin < due.length; coin++) {
            for (int what = 0; what < 5; what++) {
                c.due("told " + coin + " " + what, x.told(coin, what), due[coin][what]);
            }
        }
        c.due("paid first", x.of(5, 2), 2);
        c.due("paid first", made("5y5", "").of(0, 2), 0);
        OldestCoins two = made("5y5", "");
        c.due("paid first", two.of(0, 2), 0);
        c.due("purse", Check.purseOf(two, 0, "5y6,5y4"), 2);
        c.due("paid first", two.of(0, 2), 2);
        Check.typed(x, "5y1");
        c.due("BAD", x.purse(8), BAD);
        c.due("BAD", x.purse(-1), BAD);
        c.due("the tape stays", x.purse(0), 1);
        purseFaults(x);
        c.due("none came", x.count(0), 7);
        c.due("ten", Check.purseOf(x, 1, "1y1,1y1,1y1,1y1,1y1,1y1,1y1,1y1,1y1,1y1"), 10);
        c.due("eleven", Check.purseOf(x, 1, "1y1,1y1,1y1,1y1,1y1,1y1,1y1,1y1,1y1,1y1,1y1"), -59);
        Check.purseOf(x, 1, "1y1,1y1,1y1,1y1,1y1,1y1,1y1,1y1,1y1,1y1");
        Check.purseOf(x, 1, "1y1,1y1,1y1,1y1,1y1,1y1,1y1,1y1,1y1,1y1");
        c.due("count", x.count(0), 37);
        c.due("FULL", Check.purseOf(x, 1, "1y1,1y1,1y1,1y1"), FULL);
        c.due("none came", x.count(0), 37);
        c.due("the tape is empty then", x.type(Check.word("x"), 1), 1);
        c.due("a fault ahead of FULL", Check.purseOf(x, 1, "1y1,1y1,1y1,1y1;"), -20);
        c.due("a fault ahead of FULL", Check.purseOf(x, 1, "1y1,1y1,1y1,1y1;"), -35);
        c.due("just 40", Check.purseOf(x, 1, "1y1,1y1,1y1"), 3);
        c.due("count", x.count(0), 40);
    }

    private static void purseFaults(OldestCoins x) {
        Object[][] faults = {{"", 0}, {"   ", 3}, {"y1", 0}, {"0y1", 0}, {"100y1", 0}, {"  100y1", 2}, {"5", 1}, {"5 ", 2},
            {"5,", 1}, {"5x", 1}, {"5 5y1", 2}, {"5y", 2}, {"5y ", 3}, {"5yy", 2}, {"5y100", 2}, {"5y-1", 2}, {"5y1f", 4},
            {"5y1f,", 4}, {"5y1f100", 4}, {"5y1f1w", 5}, {"5y1w1", 4}, {"5y1wf1", 4}, {"5y1bb", 4}, {"5y1F1", 3},
            {"5y1,", 4}, {"5y1,,5y1", 4}, {",5y1", 0}, {"5y1;", 3}, {"5y1 2", 4}, {"5y1,0y1", 4}, {"5y1, 5y100", 7},
            {"5y1,5y1 f 100 w", 10}, {"99999999999999999999y1", 0}, {"5y4294967297", 2}};
        for (Object[] f : faults) {
            c.due("fault of '" + f[0] + "'", Check.purseOf(x, 0, (String) f[0]), -20 - (Integer) f[1]);
        }
    }

    private static void promise11() {
        c.part("11 day");
        OldestCoins x = made("5y1", "");
        c.due("day", Check.dayOf(x, "0>4:1, 3 > 7 : 999 ,1>5:05"), 3);
        c.due("count", x.count(2), 3);
        Object[][] faults = {{"", 0}, {" ", 1}, {"4>4:1", 0}, {"-1>4:1", 0}, {"00>4:1", 1}, {"0", 1}, {"0<4:1", 1},
            {"0>", 2}, {"0>3:1", 2}, {"0>8:1", 2}, {"0>4", 3}, {"0>44:1", 3}, {"0>4 4:1", 4}, {"0>4;1", 3}, {"0>4:", 4},
            {"0>4:x", 4}, {"0>4:0", 4}, {"0>4: 1000", 5}, {"0>4:1,", 6}, {"0>4:1 2", 6}, {"0>4:1,4>4:1", 6},
            {"0>4:1;", 5}, {",0>4:1", 0}, {"0>4:99999999999", 4}};
        for (Object[] f : faults) {
            c.due("fault of '" + f[0] + "'", Check.dayOf(x, (String) f[0]), -20 - (Integer) f[1]);
            c.due("the day stays", x.count(2), 3);
        }
        String one = "0>4:1";
        String full = String.join(",", java.util.Collections.nCopies(24, one));
        c.due("24", Check.dayOf(x, full), 24);
        c.due("25", Check.dayOf(x, full + "," + one), -20 - full.length());
        c.due("count", x.count(2), 24);
        c.due("in place of the day", Check.dayOf(x, one), 1);
        c.due("count", x.count(2), 1);
        c.due("the tape is empty then", x.type(Check.word("x"), 1), 1);
    }

    private static void promise12() {
        c.part("12 count");
        OldestCoins x = made("5y1,6y2", "99y1");
        x.errand(4, 1);
        Check.dayOf(x, "0>4:1,0>4:1,0>4:1");
        int[] due = {3, 110, 3, 1};
        for (int what = 0; what < 4; what++) {
            c.due("count " + what, x.count(what), due[what]);
        }
        c.due("count", x.count(-1), BAD);
        c.due("count", x.count(4), BAD);
    }

    private static void promise13() {
        c.part("13 bill");
        OldestCoins x = made("10y1,5y2,1y3", "2y5,3y6,4y1");
        c.due("bill", x.bill(0, 4, 12), 3);
        c.row("holders", Check.holders(x), 4, 4, 0, 4, 0, 4);
        c.due("NOT MET", x.bill(0, 4, 5), NOT);
        c.row("nothing goes", Check.holders(x), 4, 4, 0, 4, 0, 4);
        c.due("even, all that there is", x.bill(0, 4, 4), 0);
        c.row("holders", Check.holders(x), 4, 4, 4, 4, 4, 4);
        c.due("an empty purse", x.bill(0, 4, 1), NOT);
        OldestCoins y = made("5y1,5y2", "");
        c.due("what is paid now is not given back", y.bill(0, 4, 7), 0);
        c.row("holders", Check.holders(y), 4, 4);
        OldestCoins z = made("9y1", "4y9,2y8,6y7,1y6,1y5");
        c.due("those that are too much are passed by", z.bill(0, 4, 6), 3);
        c.row("holders", Check.holders(z), 4, 4, 0, 4, 0, 4);
        OldestCoins w = made("9y50", "3y9,3y9,2y9b,3y0w");
        c.due("newest of the till, worn ones last", w.bill(0, 4, 1), 8);
        c.row("holders", Check.holders(w), 4, 0, 0, 0, 4);
        OldestCoins all = new OldestCoins();
        for (int i = 0; i < 40; i++) {
            all.coin(3, 1, i, 0);
        }
        c.due("40 even sums", all.even(3, 39), 40);
        c.due("all 40 go", all.bill(3, 7, 40), 0);
        c.due("all 40 are there", all.of(7, 1), 40);
        all.give(0, 3);
        all.stamp(0, 50);
        c.due("NOT MET", all.bill(3, 7, 2), NOT);
        OldestCoins back = new OldestCoins();
        back.coin(2, 99, 0, 0);
        for (int i = 1; i < 40; i++) {
            back.coin(6, 1, i, 0);
        }
        c.due("39 come back", back.bill(2, 6, 60), 39);
        c.due("39 are there", back.of(2, 0), 39);
        int[][] wrong = {{-1, 4, 1}, {4, 4, 1}, {0, 3, 1}, {0, 8, 1}, {0, 4, 0}, {0, 4, 1000}, {0, 4, -1}};
        for (int[] b : wrong) {
            c.due("BAD", x.bill(b[0], b[1], b[2]), BAD);
        }
    }

    private static void promise13Laws() {
        c.part("13 bill, laws");
        // Law 0: pays 2, 5, 5, 4 due; newest first: 2 (y9), 3 (y8) is too much, 1 (y7), 3 (y6) is too much.
        // Law 1: pays 9, 1 due; oldest first: 3 (y6) is too much, 1 (y7).
        // Law 2: pays 2, 5, 5, 4 due; more worth first, of like ones the older: 3 (y6), 3 and 2 are too much, 1.
        // Law 3: pays 9, 1 due; less worth first: 1.
        int[] paid = {3, 1, 3, 1};
        int[] back = {3, 1, 4, 1};
        int[][] holders = {
            {4, 4, 4, 0, 4, 0, 4, 0},
            {0, 0, 0, 4, 4, 0, 4, 4},
            {4, 4, 4, 0, 4, 0, 0, 4},
            {0, 0, 0, 4, 4, 0, 4, 4}};
        for (int law = 0; law < 4; law++) {
            OldestCoins x = made("5y3,2y1,5y2,9y4", "3y8,1y7,3y6,2y9");
            x.rule(law);
            c.due("paid by law " + law, x.would(0, 4, 8, 0), paid[law]);
            c.due("bill by law " + law, x.bill(0, 4, 8), back[law]);
            c.row("holders by law " + law, Check.holders(x), holders[law]);
        }
    }

    private static void promise14() {
        c.part("14 would");
        OldestCoins x = made("10y1,5y2,1y3", "2y5,3y6,4y1");
        int[] due = {2, 15, 1, 0};
        for (int what = 0; what < 4; what++) {
            c.due("would " + what, x.would(0, 4, 12, what), due[what]);
        }
        int[] other = {1, 10, 0, 9};
        for (int what = 0; what < 4; what++) {
            c.due("would, an empty till " + what, x.would(0, 5, 1, what), other[what]);
        }
        c.row("nothing is changed", Check.holders(x), 0, 0, 0, 4, 4, 4);
        c.due("all of it", x.would(0, 4, 16, 0), 3);
        c.due("NOT", x.would(0, 4, 17, 0), NOT);
        int[][] wrong = {{-1, 4, 1, 0}, {4, 4, 1, 0}, {0, 3, 1, 0}, {0, 8, 1, 0}, {0, 4, 0, 0}, {0, 4, 1000, 0},
            {0, 4, 999, -1}, {0, 4, 999, 4}};
        for (int[] b : wrong) {
            c.due("BAD", x.would(b[0], b[1], b[2], b[3]), BAD);
        }
    }

    private static void promise15() {
        c.part("15 even");
        OldestCoins x = made("10y9,5y2,1y3", "2y5");
        c.due("how many", x.even(0, -1), 3);
        int[] due = {5, 6, 16, NONE};
        for (int i = 0; i < 4; i++) {
            c.due("even " + i, x.even(0, i), due[i]);
        }
        x.rule(1);
        c.due("by law 1", x.even(0, 0), 10);
        x.rule(2);
        c.due("by law 2", x.even(0, 0), 1);
        c.due("NONE", x.even(0, Integer.MAX_VALUE), NONE);
        c.due("none", x.even(1, -1), 0);
        c.due("none", x.even(1, 0), NONE);
        c.due("i", x.even(0, -2), BAD);
        c.due("purse", x.even(4, -1), BAD);
        c.due("purse", x.even(-1, -1), BAD);
        OldestCoins y = made("99y1,99y2,99y3,99y4,99y5,99y6,99y7,99y8,99y9,99y10", "");
        c.due("990", y.even(0, -1), 10);
        y.coin(0, 9, 11, 0);
        c.due("999", y.even(0, 10), 999);
        y.coin(0, 1, 12, 0);
        c.due("1000 is no sum", y.even(0, -1), 11);
        c.due("1000 is no sum", y.even(0, 11), NONE);
    }

    private static void promise16() {
        c.part("16 least");
        OldestCoins x = made("3y1,5y2,4y3", "");
        c.due("even as it is", x.least(0, 4, 5, 3), 0);
        c.due("even as it is", x.least(0, 4, 4, 12), 0);
        c.due("least", x.least(0, 4, 5, 5), 1);
        c.due("least", x.least(0, 4, 4, 9), 1);
        c.due("least", x.least(0, 4, 5, 4), 4);
        c.due("NONE", x.least(0, 4, 5, 1), NONE);
        c.due("NOT MET is not even", x.least(0, 4, 5, 13), NONE);
        c.row("nothing is changed", Check.holders(x), 0, 0, 0);
        x.coin(4, 1, 0, 0);
        x.coin(4, 1, 0, 0);
        c.due("by what comes back: 2 for 3, then 5 and 4 stay behind the two 1", x.least(0, 4, 5, 1), 1);
        OldestCoins y = made("99y1,99y2", "");
        c.due("first of 99", y.least(0, 4, 5, 99), 0);
        OldestCoins z = made("98y1,1y2,7y3", "");
        c.due("first of 99 at most", z.least(0, 4, 5, 7), 99);
        OldestCoins w = made("99y1,1y2,7y3", "");
        c.due("first of 99 at most", w.least(0, 4, 5, 7), NONE);
        int[][] wrong = {{-1, 4, 4, 1}, {4, 4, 4, 1}, {0, 3, 4, 1}, {0, 8, 4, 1}, {0, 4, 3, 1}, {0, 4, 8, 1},
            {0, 4, 4, 0}, {0, 4, 4, 1000}};
        for (int[] b : wrong) {
            c.due("BAD", x.least(b[0], b[1], b[2], b[3]), BAD);
        }
    }

    private static void promise17And18() {
        c.part("17 errand, 18 home");
        OldestCoins x = new OldestCoins();
        c.due("home", x.home(), 0);
        int[][] wrong = {{3, 1}, {8, 1}, {-1, 1}, {4, 0}, {4, 1000}};
        for (int[] e : wrong) {
            c.due("BAD", x.errand(e[0], e[1]), BAD);
        }
        for (int i = 0; i < 6; i++) {
            c.due("errand", x.errand(4 + i % 4, i == 5 ? 999 : 1), i);
        }
        c.due("FULL", x.errand(4, 1), FULL);
        c.due("BAD ahead of FULL", x.errand(3, 1), BAD);
        c.due("count", x.count(3), 6);
        c.due("home", x.home(), 6);
        c.due("count", x.count(3), 0);
        c.due("errand", x.errand(7, 999), 0);
    }

    private static void promise19() {
        c.part("19 order");
        OldestCoins x = made("3y1,5y2", "");
        c.due("no errand", x.order(0, -1), NONE);
        c.due("no errand", x.order(0, 0), NONE);
        x.errand(4, 5);
        x.errand(4, 3);
        int[] due = {2, 1, 0, NONE, NONE, NONE, NONE, BAD};
        for (int i = -1; i < 7; i++) {
            c.due("order " + i, x.order(0, i), due[i + 1]);
        }
        c.due("i", x.order(0, -2), BAD);
        c.due("purse", x.order(4, 0), BAD);
        c.due("purse", x.order(-1, 0), BAD);
        c.row("nothing is changed", Check.holders(x), 0, 0);
        c.due("an empty purse: none is even", x.order(1, -1), 0);
        c.due("an empty purse: the first row", x.order(1, 0), 0);
        c.due("an empty purse: the first row", x.order(1, 1), 1);
        OldestCoins y = made("3y1,5y2", "");
        y.errand(4, 999);
        y.errand(5, 3);
        y.errand(6, 5);
        int[] rest = {2, 0, 1, 2, NONE};
        for (int i = -1; i < 4; i++) {
            c.due("one that is not met is left out, order " + i, y.order(0, i), rest[i + 1]);
        }
        OldestCoins z = made("4y1,4y2,4y3,4y4,4y5,1y6", "");
        for (int i = 0; i < 6; i++) {
            z.errand(4, i == 0 ? 1 : 4);
        }
        int[] last = {6, 1, 2, 3, 4, 5, 0};
        for (int i = -1; i < 6; i++) {
            c.due("six, order " + i, z.order(0, i), last[i + 1]);
        }
    }

    private static void promise20() {
        c.part("20 send");
        OldestCoins x = made("3y1,5y2", "1y1");
        c.due("no errand", x.send(0, 2, 4, 0), NONE);
        x.errand(5, 3);
        x.errand(4, 3);
        c.due("send", x.send(0, 1, 5, 0), 1);
        c.due("send", x.send(0, 1, 5, 1), 0);
        c.due("send", x.send(0, 1, 4, 0), 0);
        c.due("send", x.send(0, 1, 4, 1), 1);
        c.due("by none", x.send(0, 1, 6, 0), NONE);
        c.due("no i-th", x.send(0, 1, 5, 2), NONE);
        c.due("no i-th", x.send(0, 1, 5, 5), NONE);
        c.due("the 1 goes out with (0, 1), as 2 are due at 4 then", x.send(0, 2, 4, 0), 1);
        c.row("nothing is changed", Check.holders(x), 0, 0, 4);
        int[][] wrong = {{-1, 0, 4, 0}, {4, 0, 4, 0}, {0, 3, 4, 0}, {0, -1, 4, 0}, {0, 0, 3, 0}, {0, 0, 8, 0},
            {0, 0, 4, -1}, {0, 0, 4, 6}};
        for (int[] b : wrong) {
            c.due("BAD", x.send(b[0], b[1], b[2], b[3]), BAD);
        }
    }

    private static void promise21() {
        c.part("21 lent");
        OldestCoins x = made("3y1,5y2", "");
        Check.purseOf(x, 1, "4y1");
        c.due("lent", x.lent(0, 4, 5, 1, 5, 7), 0);
        c.due("as even with none", x.lent(0, 4, 3, 1, 5, 4), NONE);
        c.due("never even", x.lent(0, 4, 1, 1, 5, 1), NONE);
        c.due("the other bill is not met", x.lent(0, 4, 999, 1, 5, 9), 1);
        c.row("nothing is changed", Check.holders(x), 0, 0, 1);
        OldestCoins y = made("3y1,3y2,3y3", "");
        c.due("the least number", y.lent(0, 4, 6, 1, 4, 3), 0);
        OldestCoins z = made("3y1,5y2,2y3", "");
        c.due("one even with none, one with a coin", z.lent(0, 4, 3, 3, 5, 3), NONE);
        c.due("one even with none, two with a coin", z.lent(0, 4, 3, 3, 5, 5), 1);
        c.due("two even with a later coin, one with the first", z.lent(0, 4, 3, 3, 5, 2), 2);
        c.due("the second one alone", z.lent(0, 4, 999, 3, 5, 2), 2);
        c.due("the first one alone", z.lent(0, 4, 7, 3, 5, 999), 0);
        int[][] wrong = {{-1, 4, 1, 1, 4, 1}, {4, 4, 1, 1, 4, 1}, {0, 3, 1, 1, 4, 1}, {0, 8, 1, 1, 4, 1}, {0, 4, 0, 1, 4, 1},
            {0, 4, 1000, 1, 4, 1}, {0, 4, 1, -1, 4, 1}, {0, 4, 1, 4, 4, 1}, {0, 4, 1, 1, 3, 1}, {0, 4, 1, 1, 8, 1},
            {0, 4, 1, 1, 4, 0}, {0, 4, 1, 1, 4, 1000}, {1, 4, 1, 1, 4, 1}};
        for (int[] b : wrong) {
            c.due("BAD", x.lent(b[0], b[1], b[2], b[3], b[4], b[5]), BAD);
        }
    }

    private static void promise22() {
        c.part("22 run");
        OldestCoins x = made("3y1,5y2", "1y3,1y4");
        c.due("no day", x.run(50), 0);
        Check.dayOf(x, "0>4:2,1>4:1,0>4:1");
        c.due("the second is not met: the third is not run", x.run(1), 1);
        c.row("holders", Check.holders(x), 4, 0, 4, 0);
        Check.dayOf(x, "0>4:1,0>4:2");
        // 5 goes, 4 due: the 1 (3, year 3) and the 3 (year 1) come; then the 3 goes, 1 due: nothing is newer than the 5; none.
        c.due("run twice", x.run(2), 3);
        c.due("BAD", x.run(0), BAD);
        c.due("BAD", x.run(51), BAD);
        c.due("BAD", x.run(-1), BAD);
        OldestCoins y = made("2y1", "1y1,1y2");
        Check.dayOf(y, "0>4:1");
        c.due("over and over: 2, then the 1 that came back", y.run(50), 2);
        c.row("holders", Check.holders(y), 4, 4, 4);
    }

    private static void promise23() {
        c.part("23 where");
        OldestCoins x = made("2y1", "1y1,1y2");
        c.due("no day", x.where(2, 50), 4);
        Check.dayOf(x, "0>4:1");
        c.due("behind one", x.where(0, 1), 4);
        c.due("behind one", x.where(2, 1), 0);
        c.due("behind two", x.where(2, 2), 4);
        c.due("at the end", x.where(2, 50), 4);
        c.row("nothing is changed", Check.holders(x), 0, 4, 4);
        c.due("BAD", x.where(3, 1), BAD);
        c.due("BAD", x.where(-1, 1), BAD);
        c.due("BAD", x.where(0, 0), BAD);
        c.due("BAD", x.where(0, 51), BAD);
    }

    private static void promise24() {
        c.part("24 gain");
        OldestCoins x = made("9y1,2y2", "");
        Check.dayOf(x, "0>4:2");
        c.due("the 2 goes in place of the 9", x.gain(0, 0, 3), 7);
        c.due("as old: the lesser number goes", x.gain(0, 0, 2), 0);
        c.due("the 2 is the older one", x.gain(0, 1, 0), 7);
        c.due("of another purse", x.gain(1, 0, 3), 0);
        c.row("nothing is changed", Check.holders(x), 0, 0);
        c.due("nor is the kind", x.told(0, 3), 0);
        c.due("nor is the stamp", x.told(0, 2), 1);
        OldestCoins y = made("2y1,9y2b", "");
        Check.dayOf(y, "0>4:2");
        c.due("a bent one gets a year: below 0", y.gain(0, 1, 0), -7);
        OldestCoins z = made("2y9w,9y2", "");
        Check.dayOf(z, "0>4:2");
        c.due("a worn one gets a year", z.gain(0, 0, 3), -7);
        OldestCoins w = made("9y1,2y2", "");
        Check.dayOf(w, "0>4:2,0>5:9");
        c.due("as it is, the second is not met", w.gain(0, 0, 3), -2);
        int[][] wrong = {{-1, 0, 0}, {4, 0, 0}, {0, -1, 0}, {0, 2, 0}, {0, 0, -1}, {0, 0, 100}};
        for (int[] b : wrong) {
            c.due("BAD", x.gain(b[0], b[1], b[2]), -100001);
        }
    }

    private static void promise25() {
        c.part("25 shows");
        OldestCoins x = made("3y1,3y2,9y3", "");
        c.due("no day", x.shows(2, 0), NONE);
        Check.dayOf(x, "0>4:3,0>4:6");
        c.due("9 in place of 3", x.shows(2, 0), 0);
        c.due("3 in place of 9 for the second bill", x.shows(0, 99), 0);
        Check.dayOf(x, "0>4:6,0>4:9");
        c.due("both 3 in the other order are no other coins", x.shows(0, 2), NONE);
        c.due("both 3 in the other order are no other coins", x.shows(1, 0), NONE);
        c.due("3 and 9 in place of both 3", x.shows(1, 99), 0);
        Check.dayOf(x, "0>4:3,0>4:3,0>4:9");
        c.due("the second shows", x.shows(1, 99), 1);
        OldestCoins y = made("9y1,2y2", "");
        Check.dayOf(y, "0>4:9,0>5:2");
        c.due("2 and 9 for the first", y.shows(1, 0), 0);
        OldestCoins z = made("5y1,4y2", "1y9,3y8");
        Check.dayOf(z, "0>4:3,0>4:4,0>4:9");
        // As it is: 5 goes, 2 due, 1 comes; 4 goes; 1 is left: the third is not run. The 3 forged older or newer: no other.
        c.due("nowhere", z.shows(3, 0), NONE);
        int[][] wrong = {{-1, 0}, {3, 0}, {0, -1}, {0, 100}};
        for (int[] b : wrong) {
            c.due("BAD", x.shows(b[0], b[1]), BAD);
        }
        c.due("nothing is changed", x.told(2, 3), 0);
        OldestCoins w = made("4y1", "2y2,1y3,1y4,1y5");
        Check.dayOf(w, "0>4:1,0>5:3,1>5:1");
        // As it is: 4 goes, the 1, 1, 1 come: 3. With the 2 newest: 2 and a 1 come: 3, too, but other coins.
        c.due("the second shows by what came back", w.shows(1, 99), 1);
        OldestCoins v = made("6y1", "4y2,2y3,1y4");
        Check.dayOf(v, "0>4:1,0>5:5");
        // As it is: 5 due: 1, 2 come, the 4 is too much: 3, the second is not run; with the 4 newest: 4, 1 come: it is.
        c.due("a bill that is not run, none are paid", v.shows(1, 99), 1);
        Check.dayOf(v, "0>4:1,0>5:7,3>5:1");
        c.due("not run by both", v.shows(1, 99), NONE);
    }

    private static void promise26And27() {
        c.part("26 image, 27 restore");
        OldestCoins x = made("3y1,5y2", "");
        c.due("none", x.restore(), NONE);
        x.errand(4, 5);
        Check.dayOf(x, "0>4:3");
        x.rule(2);
        c.due("image", x.image(), 1);
        x.rule(1);
        x.stamp(0, 77);
        x.give(1, 7);
        x.coin(2, 2, 2, 2);
        x.errand(5, 6);
        Check.dayOf(x, "0>4:3,0>4:3");
        x.sheet(1, 2, 7);
        Check.typed(x, "9y9");
        c.due("restore", x.restore(), 1);
        c.row("holders", Check.holders(x), 0, 0);
        c.due("stamp", x.told(0, 2), 1);
        c.due("errands", x.count(3), 1);
        c.due("bills", x.count(2), 1);
        c.due("law", x.rule(0), 2);
        c.due("sheets are not of it", x.drop(1), 7);
        c.due("the tape is not of it", x.purse(1), 1);
        c.due("number", x.count(0), 3);
        c.due("restore again", x.restore(), 1);
        c.due("number", x.count(0), 2);
        c.due("law", x.rule(3), 2);
        c.due("a new image", x.image(), 1);
        x.home();
        c.due("restore", x.restore(), 1);
        c.due("law", x.rule(3), 3);
        c.due("paid first, by the law of the image", x.of(0, 2), 1);
        OldestCoins y = new OldestCoins();
        c.due("an image of nothing", y.image(), 1);
        y.coin(0, 1, 1, 0);
        c.due("restore", y.restore(), 1);
        c.due("number", y.count(0), 0);
        OldestCoins z = made("3y5", "");
        z.image();
        z.coin(0, 3, 1, 0);
        c.due("paid first", z.of(0, 2), 1);
        z.restore();
        c.due("paid first", z.of(0, 2), 0);
        z.coin(0, 3, 9, 0);
        z.coin(0, 3, 2, 0);
        c.due("paid first", z.of(0, 2), 2);
        z.restore();
        z.coin(1, 3, 9, 0);
        c.due("paid first", z.of(0, 2), 0);
        c.due("paid first", z.of(1, 2), 1);
    }

    private static void promise28() {
        c.part("28 seen");
        OldestCoins x = new OldestCoins();
        x.sheet(0, 1, 6);
        int[] worths = {0, 5, 2, 1, 10, 100};
        for (int i = 0; i < worths.length; i++) {
            x.item(0, 1, i, worths[i]);
        }
        c.due("how many", x.seen(0, 1, 1, 4, 6, 2, 1, -1), 4);
        c.due("one of 10, or 5 first", x.seen(0, 1, 1, 4, 3, 1, 7, -1), 6);
        int[] first = {3, 0, 1, 2};
        for (int k = 0; k < 4; k++) {
            c.due("the first, item " + k, x.seen(0, 1, 1, 4, 3, 1, 7, k), first[k]);
        }
        c.due("none", x.seen(0, 1, 1, 4, 19, 4, 0, -1), NONE);
        c.due("more than there are", x.seen(0, 1, 1, 3, 8, 4, 0, -1), NONE);
        c.due("2 and then 5: with 5 first one is enough", x.seen(0, 1, 1, 3, 5, 2, 2, -1), 1);
        c.due("each for itself", seenOfLike(), 2);
        int[][] wrong = {{-1, 1, 1, 4, 6, 2, 1, 0}, {4, 1, 1, 4, 6, 2, 1, 0}, {0, -1, 1, 4, 6, 2, 1, 0}, {0, 3, 1, 4, 6, 2, 1, 0},
            {0, 1, 1, 0, 6, 2, 1, -1}, {0, 1, 1, 5, 6, 2, 1, 0}, {0, 1, 1, 4, 0, 2, 1, 0}, {0, 1, 1, 4, 1000, 2, 1, 0},
            {0, 1, 1, 4, 6, 0, 1, 0}, {0, 1, 1, 4, 6, 5, 1, 0}, {0, 1, 1, 4, 6, 2, -1, 0}, {0, 1, 1, 4, 6, 2, 100, 0},
            {0, 1, 1, 4, 6, 2, 1, -2}, {0, 1, 1, 4, 6, 2, 1, 4}, {1, 1, 1, 3, 6, 2, 1, 3}};
        for (int[] b : wrong) {
            c.due("BAD", x.seen(b[0], b[1], b[2], b[3], b[4], b[5], b[6], b[7]), BAD);
        }
        c.due("NULL", x.seen(1, 0, -1, 4, 6, 2, 1, 0), NULL);
        c.due("CAST", x.seen(0, 0, -1, 4, 6, 2, 1, 0), CAST);
        c.due("INDEX", x.seen(0, 1, -1, 4, 6, 2, 1, 0), INDEX);
        c.due("INDEX ahead of NOT", x.seen(0, 1, 3, 4, 6, 2, 1, 0), INDEX);
        c.due("INDEX", x.seen(0, 1, Integer.MAX_VALUE, 4, 6, 2, 1, 0), INDEX);
        c.due("INDEX", x.seen(0, 1, Integer.MIN_VALUE, 4, 6, 2, 1, 0), INDEX);
        c.due("NOT, a worth of 0", x.seen(0, 1, 0, 4, 6, 2, 1, 0), NOT);
        x.item(0, 1, 5, 99);
        c.due("a worth of 99", x.seen(0, 1, 5, 1, 1, 1, 98, 0), 0);
        c.due("all four, 999 is too much", x.seen(0, 1, 2, 4, 999, 4, 0, 0), NONE);
        x.item(0, 1, 5, 100);
        c.due("NOT, a worth of 100", x.seen(0, 1, 2, 4, 6, 2, 1, 0), NOT);
    }

    private static int seenOfLike() {
        OldestCoins x = new OldestCoins();
        x.sheet(3, 0, 2);
        x.item(3, 0, 0, 7);
        x.item(3, 0, 1, 7);
        return x.seen(3, 0, 0, 2, 7, 1, 0, -1);
    }

    private static void promise29() {
        c.part("29 sheet");
        OldestCoins x = new OldestCoins();
        c.due("sheet", x.sheet(0, 0, 24), 24);
        c.due("sheet", x.sheet(3, 2, 0), 0);
        c.due("an empty one is not nothing", x.drop(3), 0);
        x.item(0, 0, 0, 5);
        c.due("a new row", x.sheet(0, 0, 1), 1);
        c.due("its items are 0", x.seen(0, 0, 0, 1, 1, 1, 0, 0), NOT);
        c.due("BAD", x.sheet(-1, 0, 1), BAD);
        c.due("BAD", x.sheet(4, 0, 1), BAD);
        c.due("BAD", x.sheet(0, -1, 1), BAD);
        c.due("BAD", x.sheet(0, 3, 1), BAD);
        c.due("BAD", x.sheet(0, 0, 25), BAD);
        c.due("BAD ahead of SIZE", x.sheet(4, 0, -1), BAD);
        c.due("SIZE", x.sheet(0, 0, -1), SIZE);
        c.due("SIZE", x.sheet(0, 0, Integer.MIN_VALUE), SIZE);
        c.due("what it held stays", x.drop(0), 1);
    }

    private static void promise30() {
        c.part("30 drop");
        OldestCoins x = new OldestCoins();
        c.due("NULL", x.drop(2), NULL);
        x.sheet(2, 1, 9);
        c.due("drop", x.drop(2), 9);
        c.due("NULL", x.drop(2), NULL);
        c.due("BAD", x.drop(4), BAD);
        c.due("BAD", x.drop(-1), BAD);
    }

    private static void promise31() {
        c.part("31 item");
        OldestCoins x = new OldestCoins();
        c.due("NULL", x.item(0, 0, 0, 1), NULL);
        long[] cut = {0x105, 0x100000005L, 5};
        long[] wide = {5, 0x105, 0x100000005L};
        for (int lane = 0; lane < 3; lane++) {
            x.sheet(0, lane, 2);
            c.due("item", x.item(0, lane, 1, cut[lane]), 1);
            c.due("its lowest bits, lane " + lane, x.seen(0, lane, 1, 1, 5, 1, 0, 0), 0);
            c.due("item", x.item(0, lane, 1, wide[lane]), 1);
            c.due("what the lane holds, lane " + lane, x.seen(0, lane, 1, 1, 5, 1, 0, 0), lane == 0 ? 0 : NOT);
        }
        x.sheet(0, 0, 1);
        x.item(0, 0, 0, 0xff);
        c.due("a byte below 0", x.seen(0, 0, 0, 1, 5, 1, 0, 0), NOT);
        c.due("CAST", x.item(0, 1, 5, 1), CAST);
        c.due("INDEX", x.item(0, 0, 1, 1), INDEX);
        c.due("INDEX", x.item(0, 0, -1, 1), INDEX);
        c.due("INDEX", x.item(0, 0, Integer.MAX_VALUE, 1), INDEX);
        c.due("BAD", x.item(4, 0, 0, 1), BAD);
        c.due("BAD", x.item(-1, 0, 0, 1), BAD);
        c.due("BAD ahead of NULL", x.item(1, 3, 0, 1), BAD);
        c.due("BAD", x.item(0, -1, 0, 1), BAD);
        x.sheet(1, 0, 0);
        c.due("INDEX, no items", x.item(1, 0, 0, 1), INDEX);
    }

    private static void promise32() {
        c.part("32 film");
        OldestCoins x = made("3y9,5y2,7y1,8y0b,9y99w", "2y2");
        x.sheet(0, 1, 6);
        x.item(0, 1, 0, 50);
        c.due("film", x.film(0, 0, 1, 1), 5);
        // By law 0: 4, 2, 1, 0, 3; so items 1 .. 4 are worths as those numbers, but for the fourth, which is 0.
        c.due("4, 2, 1", x.seen(0, 1, 1, 3, 4, 1, 0, 0), 0);
        c.due("4, 2, 1", x.seen(0, 1, 1, 3, 2, 1, 0, 0), 1);
        c.due("4, 2, 1", x.seen(0, 1, 1, 3, 1, 1, 0, 0), 2);
        c.due("0", x.seen(0, 1, 4, 1, 1, 1, 0, 0), NOT);
        c.due("3", x.seen(0, 1, 5, 1, 3, 1, 0, 0), 0);
        c.due("ahead of it nothing is changed", x.seen(0, 1, 0, 1, 50, 1, 0, 0), 0);
        x.rule(3);
        c.due("film by law 3: 4, 3, 2, 1, 0", x.film(0, 0, 1, 0), 5);
        c.due("4, 3, 2, 1", x.seen(0, 1, 0, 4, 2, 1, 0, 0), 2);
        c.due("INDEX", x.film(0, 0, 1, 2), INDEX);
        c.due("INDEX", x.film(0, 0, 1, -1), INDEX);
        c.due("INDEX", x.film(0, 0, 1, Integer.MAX_VALUE), INDEX);
        c.due("what is refused changes nothing", x.seen(0, 1, 2, 1, 2, 1, 0, 0), 0);
        c.due("no coins", x.film(1, 0, 1, 6), 0);
        c.due("CAST ahead of INDEX", x.film(0, 0, 2, -1), CAST);
        c.due("NULL ahead of CAST", x.film(0, 1, 2, -1), NULL);
        c.due("BAD", x.film(8, 0, 1, 0), BAD);
        c.due("BAD", x.film(-1, 0, 1, 0), BAD);
        c.due("BAD", x.film(0, 4, 1, 0), BAD);
        c.due("BAD ahead of NULL", x.film(0, 1, 3, 0), BAD);
        c.due("a till", x.film(4, 0, 1, 5), 1);
        c.due("5", x.seen(0, 1, 5, 1, 5, 1, 0, 0), 0);
    }
}
