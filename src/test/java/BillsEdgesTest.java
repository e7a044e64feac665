/** The document's part 2 and promises 13 to 21, sentence by sentence: its edges. */
public final class BillsEdgesTest {
    private static final int BAD = -1, NOT = -2, FULL = -3, NONE = -4;
    private static final Check c = new Check();

    public static void main(String[] args) {
        untilItIsEnough();
        allTogetherAreLess();
        sumsFromOneTo999();
        dueBack();
        withoutWhatIsPaidNow();
        shortBehindAll();
        evenIfNothingIsDue();
        thenWhatWasPaidIsInTheTill();
        allFortyGo();
        eachPurseAndShop();
        wouldIsAsTheBill();
        evenSumsRise();
        evenSumsEndAt999();
        evenByLaws();
        leastIsNoneAtFirst();
        leastEndsAt99();
        leastOfSameShop();
        leastMustBeMet();
        errandsAsTheyCome();
        orderOfNone();
        orderFirstAsARow();
        orderLeavesOutWhatIsNotMet();
        orderCountsEvenOnes();
        orderOfAllSix();
        sendBehindAll();
        sendOfACoinThatIsThere();
        sendTheFirstOrder();
        lentOfLikeOnesNone();
        lentTheLeastNumber();
        lentFirstThenSecond();
        lentToItself();
        c.end();
    }

    private static void would(String what, OldestCoins x, int[] bill, int... due) {
        for (int i = 0; i < due.length; i++) {
            c.due(what + ", would " + i, x.would(bill[0], bill[1], bill[2], i), due[i]);
        }
    }

    private static void untilItIsEnough() {
        c.part("one by one, until their WORTH together is the SUM or more");
        OldestCoins x = Towns.of("0 4y1,4y2,4y3");
        would("one less than one coin", x, new int[] {0, 4, 3}, 1, 4, 0, 1);
        would("just one coin", x, new int[] {0, 4, 4}, 1, 4, 0, 0);
        would("one more than one coin", x, new int[] {0, 4, 5}, 2, 8, 0, 3);
        would("one less than two", x, new int[] {0, 4, 7}, 2, 8, 0, 1);
        would("just two", x, new int[] {0, 4, 8}, 2, 8, 0, 0);
        would("one more than two", x, new int[] {0, 4, 9}, 3, 12, 0, 3);
        would("one less than all", x, new int[] {0, 4, 11}, 3, 12, 0, 1);
        would("just all", x, new int[] {0, 4, 12}, 3, 12, 0, 0);
        would("one more than all", x, new int[] {0, 4, 13}, NOT, NOT, NOT, NOT);
    }

    private static void allTogetherAreLess() {
        c.part("if all together are less, it is NOT MET; NOT: it is NOT MET (nothing goes)");
        for (int law = 0; law < 4; law++) {
            OldestCoins x = Towns.of("0 4y1,3y2", "1 99y1", "4 1y1");
            x.rule(law);
            c.due("one more than all", x.bill(0, 4, 8), NOT);
            c.due("much more", x.bill(0, 4, 999), NOT);
            c.row("nothing goes", Check.holders(x), 0, 0, 1, 4);
            c.due("a purse without coins", x.bill(2, 4, 1), NOT);
            c.due("just all", x.bill(0, 4, 7), 0);
            c.due("now it has none", x.bill(0, 4, 1), NOT);
            c.row("holders", Check.holders(x), 4, 4, 1, 4);
        }
    }

    private static void sumsFromOneTo999() {
        c.part("a SUM (1 .. 999)");
        OldestCoins x = new OldestCoins();
        for (int i = 0; i < 11; i++) {
            x.coin(0, i < 10 ? 99 : 10, i, 0);
        }
        would("the least", x, new int[] {0, 7, 1}, 1, 99, 0, 98);
        would("the most", x, new int[] {0, 7, 999}, 11, 1000, 0, 1);
        c.due("1000", x.would(0, 7, 1000, 0), BAD);
        c.due("0", x.would(0, 7, 0, 0), BAD);
        c.due("1000", x.bill(0, 7, 1000), BAD);
        c.due("0", x.bill(0, 7, 0), BAD);
        c.due("the most", x.bill(0, 7, 999), 0);
        c.due("all are gone", x.of(0, 0), 0);
        c.due("all have come", x.of(7, 1), 1000);
    }

    private static void dueBack() {
        c.part("each COIN is given whose WORTH is no more than what is still DUE");
        OldestCoins x = Towns.of("0 9y1", "4 5y9");
        would("just what is due", x, new int[] {0, 4, 4}, 1, 9, 1, 0);
        would("one more is due", x, new int[] {0, 4, 3}, 1, 9, 1, 1);
        would("one less is due", x, new int[] {0, 4, 5}, 1, 9, 0, 4);
        OldestCoins y = Towns.of("0 9y1", "4 3y9,3y8,3y7,1y6,2y5");
        would("6 due: the third 3 stays", y, new int[] {0, 4, 3}, 1, 9, 2, 0);
        would("7 due: 3, 3, then the 1", y, new int[] {0, 4, 2}, 1, 9, 3, 0);
        would("8 due: 3, 3, 1, the 2 is too much", y, new int[] {0, 4, 1}, 1, 9, 3, 1);
        would("5 due: 3, no 3 more, 1, then the 2 is too much", y, new int[] {0, 4, 4}, 1, 9, 2, 1);
        c.due("the WORTH that is given back", y.bill(0, 4, 4), 4);
        c.row("holders", Check.holders(y), 4, 0, 4, 4, 0, 4);
    }

    private static void withoutWhatIsPaidNow() {
        c.part("of the till (without what is paid now)");
        for (int law = 0; law < 4; law++) {
            OldestCoins x = Towns.of("0 3y5,3y5,3y5");
            x.rule(law);
            c.due("3 due, but the till had nothing", x.bill(0, 4, 4), 0);
            c.due("of the two paid none is back", x.of(4, 0), 2);
        }
        OldestCoins y = Towns.of("0 2y1,6y2", "4 2y9");
        c.due("2 and 6 for 4: 4 due, the 2 of the till is given, the 2 that is paid is not", y.bill(0, 4, 4), 2);
        c.row("holders", Check.holders(y), 4, 4, 0);
    }

    private static void shortBehindAll() {
        c.part("what is still DUE behind all is SHORT");
        OldestCoins x = Towns.of("0 99y1", "4 1y1,1y2");
        would("an empty till", x, new int[] {0, 5, 1}, 1, 99, 0, 98);
        would("all of the till", x, new int[] {0, 4, 1}, 1, 99, 2, 96);
        would("nothing is short", x, new int[] {0, 4, 97}, 1, 99, 2, 0);
        would("a coin is not needed", x, new int[] {0, 4, 98}, 1, 99, 1, 0);
        would("even", x, new int[] {0, 4, 99}, 1, 99, 0, 0);
        c.due("the WORTH that is given back is not what is due", x.bill(0, 4, 1), 2);
    }

    private static void evenIfNothingIsDue() {
        c.part("It is EVEN, if nothing is DUE.");
        OldestCoins x = Towns.of("0 3y1", "4 1y1,1y2");
        c.due("what is due and all given back is not even", x.even(0, -1), 1);
        c.due("nor for least: 2 of the 3 would come back", x.least(0, 5, 4, 1), NONE);
        x.errand(4, 1);
        c.due("nor for order", x.order(0, -1), 0);
        c.due("nor for lent", x.lent(0, 4, 1, 1, 4, 1), NONE);
        c.due("what is not met is not even", x.least(0, 5, 4, 4), NONE);
    }

    private static void thenWhatWasPaidIsInTheTill() {
        c.part("Then what was paid is in the till, what was given back in the PURSE.");
        OldestCoins x = Towns.of("2 7y1", "6 2y5,1y6");
        c.due("4 due: 1, 2 come", x.bill(2, 6, 3), 3);
        c.row("holders", Check.holders(x), 6, 2, 2);
        c.due("what came is paid next, the 2 is the older", x.bill(2, 6, 2), 0);
        c.row("holders", Check.holders(x), 6, 6, 2);
        x.coin(3, 9, 9, 0);
        c.due("what another paid is given back: 8 due, 2 is newer than the 7", x.bill(3, 6, 1), 2);
        c.row("holders", Check.holders(x), 6, 3, 2, 6);
        x.coin(3, 9, 0, 0);
        c.due("8 due: 9 is too much, then 7", x.bill(3, 6, 1), 7);
        c.row("holders", Check.holders(x), 3, 3, 2, 6, 6);
    }

    private static void allFortyGo() {
        c.part("a bill of all 40 COINS, and 39 that are given back");
        for (int law = 0; law < 4; law++) {
            OldestCoins x = new OldestCoins();
            x.rule(law);
            for (int i = 0; i < 40; i++) {
                x.coin(1, 2, i, i % 4);
            }
            would("all", x, new int[] {1, 5, 79}, 40, 80, 0, 1);
            c.due("one more", x.bill(1, 5, 81), NOT);
            c.due("all", x.bill(1, 5, 80), 0);
            c.due("all have come", x.of(5, 0), 40);
            OldestCoins y = new OldestCoins();
            y.rule(law);
            y.coin(1, 99, 50, 0);
            for (int i = 1; i < 40; i++) {
                y.coin(5, 2, i, i % 4);
            }
            would("39 come back", y, new int[] {1, 5, 20}, 1, 99, 39, 1);
            c.due("39 come back", y.bill(1, 5, 21), 78);
            c.due("39 are there", y.of(1, 0), 39);
        }
    }

    private static void eachPurseAndShop() {
        c.part("a BILL of a PURSE to a SHOP: all of them");
        for (int purse = 0; purse < 4; purse++) {
            for (int shop = 4; shop < 8; shop++) {
                OldestCoins x = Towns.of(purse + " 5y1", shop + " 2y1");
                c.due("bill", x.bill(purse, shop, 3), 2);
                c.row("holders", Check.holders(x), shop, purse);
            }
        }
    }

    private static void wouldIsAsTheBill() {
        c.part("would: Of a BILL, if it came");
        OldestCoins x = Towns.of("0 5y3,2y1,5y2,9y4", "4 3y8,1y7,3y6,2y9");
        int before = x.of(0, 1);
        would("even", x, new int[] {0, 4, 7}, 2, 7, 0, 0);
        would("4 due", x, new int[] {0, 4, 8}, 3, 12, 2, 1);
        c.due("nothing goes", x.of(0, 1), before);
        c.due("if it comes: the same", x.bill(0, 4, 8), 3);
        c.due("now it is another", x.would(0, 4, 8, 1), 9);
    }

    private static void evenSumsRise() {
        c.part("EVEN SUMS, rising; how many (-1), the i-th (0 ..); NONE: there is no i-th");
        OldestCoins x = new OldestCoins();
        c.due("no coins", x.even(0, -1), 0);
        c.due("no coins", x.even(0, 0), NONE);
        x.coin(3, 7, 1, 0);
        c.due("one", x.even(3, -1), 1);
        c.due("one", x.even(3, 0), 7);
        c.due("no second", x.even(3, 1), NONE);
        c.due("of another purse", x.even(2, -1), 0);
        c.due("a till's coins are not of it", Towns.of("4 5y1").even(0, -1), 0);
        OldestCoins all = new OldestCoins();
        for (int i = 0; i < 40; i++) {
            all.coin(0, 24, 99 - i, 0);
        }
        c.due("all 40", all.even(0, -1), 40);
        for (int i = 0; i < 40; i++) {
            c.due("the i-th of 40", all.even(0, i), 24 * (i + 1));
        }
        c.due("no 41st", all.even(0, 40), NONE);
    }

    private static void evenSumsEndAt999() {
        c.part("EVEN SUMS: those (1 .. 999)");
        OldestCoins x = new OldestCoins();
        for (int i = 0; i < 10; i++) {
            x.coin(0, 99, i, 0);
        }
        c.due("990", x.even(0, 9), 990);
        x.coin(0, 9, 10, 0);
        c.due("999 is one", x.even(0, 10), 999);
        c.due("999 is one", x.even(0, -1), 11);
        x.coin(0, 1, 11, 0);
        c.due("1000 is none", x.even(0, -1), 11);
        c.due("1000 is none", x.even(0, 11), NONE);
        x.give(10, 1);
        c.due("991 is one", x.even(0, 10), 991);
        OldestCoins y = new OldestCoins();
        for (int i = 0; i < 40; i++) {
            y.coin(0, 99, i, 0);
        }
        c.due("40 coins of 99", y.even(0, -1), 10);
        c.due("40 coins of 99", y.even(0, 10), NONE);
        OldestCoins one = Towns.of("0 1y1");
        c.due("1 is one", one.even(0, 0), 1);
    }

    private static void evenByLaws() {
        c.part("EVEN SUMS of BILLS by THE LAW");
        int[][] due = {{9, 10, 15, 18}, {3, 8, 9, 18}, {1, 4, 9, 18}, {9, 14, 17, 18}};
        OldestCoins x = Towns.of("0 5y30,9y10,1y20,3y40");
        for (int law = 0; law < 4; law++) {
            x.rule(law);
            for (int i = 0; i < 4; i++) {
                c.due("law " + law + ", the " + i + "-th", x.even(0, i), due[law][i]);
            }
            for (int sum = 1; sum <= 19; sum++) {
                boolean isEven = x.would(0, 4, sum, 1) == sum;
                boolean isTold = sum == due[law][0] || sum == due[law][1] || sum == due[law][2] || sum == due[law][3];
                c.due("law " + law + ", sum " + sum, isEven ? 1 : 0, isTold ? 1 : 0);
            }
        }
    }

    private static void leastIsNoneAtFirst() {
        c.part("LEAST: the least SUM (0: none; ...)");
        OldestCoins x = Towns.of("0 3y1,5y2");
        c.due("even as it is", x.least(0, 4, 5, 3), 0);
        c.due("even as it is, all", x.least(0, 4, 5, 8), 0);
        c.due("the 3 goes first for 1", x.least(0, 4, 5, 5), 1);
        c.due("no purse", x.least(1, 4, 5, 5), NONE);
        c.due("by none", x.least(0, 4, 5, 4), NONE);
    }

    private static void leastEndsAt99() {
        c.part("LEAST: the least SUM (... or 1 .. 99)");
        OldestCoins x = Towns.of("0 97y1,1y2,1y3,7y4");
        c.due("98: behind it 1, 7", x.least(0, 4, 5, 8), 98);
        c.due("99: behind it the 7", x.least(0, 4, 5, 7), 99);
        c.due("behind the 97 alone: 1, 1, 7", x.least(0, 4, 5, 9), 1);
        OldestCoins y = Towns.of("0 97y1,1y2,1y3,1y4,7y5");
        c.due("it would take 100", y.least(0, 4, 5, 7), NONE);
        OldestCoins z = Towns.of("0 99y1,7y2");
        c.due("the least of 1 .. 99 that pay the 99", z.least(0, 4, 5, 7), 1);
    }

    private static void leastOfSameShop() {
        c.part("a told BILL of it to another SHOP (or the same)");
        OldestCoins x = Towns.of("0 3y1,9y2", "4 1y3,1y4");
        c.due("3 for 1 at 4: two 1 come, behind the 9 by age", x.least(0, 4, 5, 9), 1);
        c.due("the same shop", x.least(0, 4, 4, 9), 1);
        c.due("what comes back counts: 9, 1", x.least(0, 4, 4, 10), 1);
        c.due("what comes back counts: 9, 1, 1", x.least(0, 4, 5, 11), 1);
        c.due("at 5 nothing comes back", x.least(0, 5, 4, 11), NONE);
        c.due("even as it is, all", x.least(0, 5, 5, 12), 0);
    }

    private static void leastMustBeMet() {
        c.part("LEAST: of a BILL that can be MET");
        OldestCoins x = Towns.of("0 2y1", "4 1y1");
        c.due("2 for 1: the 1 comes", x.least(0, 4, 5, 1), 1);
        c.due("3 is never met, so no other is behind it", x.least(0, 4, 5, 3), NONE);
        OldestCoins y = Towns.of("4 1y1");
        c.due("a purse without coins", y.least(0, 4, 4, 1), NONE);
    }

    private static void errandsAsTheyCome() {
        c.part("ERRANDS 0 .. 5, as they come; FULL: 6; home: All ERRANDS go: how many");
        OldestCoins x = new OldestCoins();
        for (int round = 0; round < 2; round++) {
            for (int i = 0; i < 6; i++) {
                c.due("errands", x.count(3), i);
                c.due("errand", x.errand(4 + i % 4, i == 0 ? 1 : 999), i);
            }
            c.due("FULL", x.errand(4, 1), FULL);
            c.due("errands", x.count(3), 6);
            c.due("home", x.home(), 6);
            c.due("home again", x.home(), 0);
        }
        x.errand(7, 1);
        c.due("home of one", x.home(), 1);
    }

    private static void orderOfNone() {
        c.part("order: NONE: there is no ERRAND, no i-th");
        OldestCoins x = Towns.of("0 5y1");
        for (int i = -1; i < 6; i++) {
            c.due("no errand, " + i, x.order(0, i), NONE);
        }
        for (int n = 1; n <= 6; n++) {
            x.errand(4, 999);
            for (int i = -1; i < 6; i++) {
                c.due(n + " errands, " + i, x.order(0, i), i == -1 ? 0 : i < n ? i : NONE);
            }
        }
        x.home();
        c.due("no errand again", x.order(0, -1), NONE);
    }

    private static void row(OldestCoins x, int purse, int... due) {
        for (int i = -1; i < due.length - 1; i++) {
            c.due("order " + i, x.order(purse, i), due[i + 1]);
        }
    }

    private static void orderFirstAsARow() {
        c.part("by which most are EVEN, of like ones the first as a row");
        OldestCoins x = Towns.of("0 4y1,4y2,4y3");
        x.errand(4, 4);
        x.errand(5, 4);
        x.errand(6, 4);
        row(x, 0, 3, 0, 1, 2, NONE);
        OldestCoins y = Towns.of("0 4y1,4y2,4y3");
        y.errand(4, 3);
        y.errand(5, 4);
        y.errand(6, 4);
        row(y, 0, 2, 0, 1, 2, NONE);
        OldestCoins z = Towns.of("0 2y1,3y2,5y3");
        z.errand(4, 5);
        z.errand(4, 3);
        z.errand(4, 2);
        row(z, 0, 3, 2, 1, 0, NONE);
        OldestCoins w = Towns.of("0 2y1,3y2,5y3");
        w.errand(4, 5);
        w.errand(4, 5);
        row(w, 0, 2, 0, 1, NONE);
    }

    private static void orderLeavesOutWhatIsNotMet() {
        c.part("one that is NOT MET as it comes is left out");
        OldestCoins x = Towns.of("0 3y1,5y2");
        x.errand(4, 9);
        x.errand(4, 5);
        x.errand(4, 3);
        row(x, 0, 2, 0, 2, 1, NONE);
        OldestCoins y = Towns.of("0 3y1,5y2");
        y.errand(4, 8);
        y.errand(4, 5);
        y.errand(4, 3);
        row(y, 0, 2, 2, 0, 1, NONE);
    }

    /** The 8 alone is even; with 3 ahead of it, it is not met, so 3, 8, 5 has two even ones and is ahead of 3, 5, 8. */
    private static void orderCountsEvenOnes() {
        c.part("how many are EVEN (-1)");
        OldestCoins y = Towns.of("0 3y1,5y2");
        y.errand(4, 8);
        row(y, 0, 1, 0, NONE);
        y.errand(4, 3);
        row(y, 0, 1, 0, 1, NONE);
        y.errand(4, 5);
        row(y, 0, 2, 1, 0, 2, NONE);
    }

    private static void orderOfAllSix() {
        c.part("that order of all ERRANDS: six");
        OldestCoins x = Towns.of("3 1y1,2y2,3y3,4y4,5y5,6y6");
        for (int i = 6; i >= 1; i--) {
            x.errand(4 + i % 4, i);
        }
        row(x, 3, 6, 5, 4, 3, 2, 1, 0);
        x.rule(1);
        row(x, 3, 6, 0, 1, 2, 3, 4, 5);
        row(x, 2, 0, 0, 1, 2, 3, 4, 5);
    }

    private static void sendBehindAll() {
        c.part("SEND: the first order (so) behind which a told COIN is in a told SHOP's till");
        OldestCoins x = Towns.of("0 3y1", "4 1y5");
        x.errand(4, 2);
        c.due("the 3 is in the till of 4", x.send(0, 0, 4, 0), 0);
        c.due("the 1 has come back", x.send(0, 1, 4, 0), NONE);
        x.errand(5, 1);
        c.due("then the 1 goes to 5", x.send(0, 1, 5, 0), 0);
        c.due("then the 1 goes to 5", x.send(0, 1, 5, 1), 1);
        c.due("no third", x.send(0, 1, 5, 2), NONE);
        c.due("the 3 goes to 5 if that is first", x.send(0, 0, 5, 0), 1);
        c.due("the 3 goes to 5 if that is first", x.send(0, 0, 5, 1), 0);
        c.due("the other one is not met then: the 1 stays in 4", x.send(0, 1, 4, 0), 1);
        c.due("a shop where no errand is", x.send(0, 0, 6, 0), NONE);
    }

    private static void sendOfACoinThatIsThere() {
        c.part("SEND of a COIN that is not of the PURSE");
        OldestCoins x = Towns.of("0 3y1", "1 4y1", "7 2y1");
        c.due("no errand, though it is there", x.send(0, 2, 7, 0), NONE);
        x.errand(4, 3);
        x.errand(4, 2);
        c.due("it is there, and stays: the first order", x.send(0, 2, 7, 0), 0);
        c.due("it is there, and stays: the first order", x.send(0, 2, 7, 1), 1);
        c.due("no third", x.send(0, 2, 7, 2), NONE);
        c.due("it stays where it is", x.send(0, 2, 4, 0), NONE);
        c.due("of another purse", x.send(0, 1, 4, 0), NONE);
        c.due("by that purse", x.send(1, 1, 4, 0), 0);
        OldestCoins empty = Towns.of("4 5y5");
        empty.errand(4, 1);
        c.due("an empty purse: all is left out", empty.send(2, 0, 4, 0), 0);
        for (int n = 1; n <= 6; n++) {
            for (int i = 0; i < 6; i++) {
                c.due(n + " errands, " + i, empty.send(2, 0, 4, i), i < n ? i : NONE);
            }
            empty.errand(5, 1);
        }
        empty.home();
        c.due("no errand again", empty.send(2, 0, 4, 0), NONE);
    }

    private static void sendTheFirstOrder() {
        c.part("SEND: i-th ERRAND (0 .. 5); NONE: by none, there is no i-th");
        OldestCoins x = Towns.of("0 1y1,1y2,1y3,1y4,1y5,1y6");
        for (int i = 0; i < 6; i++) {
            x.errand(i == 5 ? 7 : 4, 1);
        }
        int[] due = {5, 0, 1, 2, 3, 4};
        for (int i = 0; i < 6; i++) {
            c.due("the first coin to 7, " + i, x.send(0, 0, 7, i), due[i]);
            c.due("the last coin to 7, " + i, x.send(0, 5, 7, i), i);
        }
        int[] third = {0, 1, 5, 2, 3, 4};
        for (int i = 0; i < 6; i++) {
            c.due("the third coin to 7, " + i, x.send(0, 2, 7, i), third[i]);
            c.due("the third coin to 6, " + i, x.send(0, 2, 6, i), NONE);
        }
    }

    private static void lentOfLikeOnesNone() {
        c.part("LENT: by which most of the two are EVEN, of like ones none");
        OldestCoins x = Towns.of("0 3y1,5y2", "1 4y1");
        c.due("both are even with none", x.lent(0, 4, 3, 1, 5, 4), NONE);
        c.due("one is with none, one with a coin", x.lent(0, 4, 3, 1, 5, 7), NONE);
        c.due("none is, whatever is lent", x.lent(0, 4, 1, 1, 5, 1), NONE);
        c.due("both are not met", x.lent(0, 4, 999, 1, 5, 999), NONE);
        c.due("the second is with none, the first with the 3", x.lent(0, 4, 5, 1, 5, 4), NONE);
        c.due("the first is with none, both with the 5", x.lent(0, 4, 3, 1, 5, 9), 1);
        c.due("both are with the 3: 5; 3, 4", x.lent(0, 4, 5, 1, 5, 7), 0);
        OldestCoins y = Towns.of("1 4y1");
        c.due("the first has none to lend", y.lent(0, 4, 3, 1, 5, 3), NONE);
        c.due("both have none", y.lent(2, 4, 3, 3, 5, 3), NONE);
        c.due("the second's coins are not lent to the first", y.lent(0, 4, 4, 1, 5, 9), NONE);
    }

    private static void lentTheLeastNumber() {
        c.part("LENT: of like ones none, then the COIN of the least number");
        OldestCoins x = Towns.of("0 2y9,2y8,2y7,2y6");
        c.due("each would do", x.lent(0, 4, 6, 1, 5, 2), 0);
        x.give(0, 4);
        c.due("each would do", x.lent(0, 4, 4, 1, 6, 2), 1);
        OldestCoins y = Towns.of("1 1y1", "0 5y5,7y7,6y6");
        c.due("the number of all coins: 2 is the 7", y.lent(0, 4, 11, 1, 5, 8), 2);
        c.due("the number of all coins: 3 is the 6", y.lent(0, 4, 12, 1, 5, 7), 3);
        c.due("the first is not met: 1 and the 5 for 6", y.lent(0, 4, 999, 1, 5, 6), 1);
    }

    private static void lentFirstThenSecond() {
        c.part("LENT: a first PURSE has a told BILL to a SHOP, then a second one");
        OldestCoins x = Towns.of("0 5y1", "1 9y1", "4 1y9");
        c.due("5 for 4: the 1 goes to 0, so 9 for 9 is even in any case", x.lent(0, 4, 4, 1, 4, 9), NONE);
        OldestCoins y = Towns.of("0 5y1,2y5", "1 9y3");
        c.due("the 5 is lent: it is the older: 5 is even", y.lent(0, 4, 2, 1, 4, 5), 0);
        c.due("the 2 is lent: 9, 2 for 11, 5 for 5", y.lent(0, 4, 5, 1, 4, 11), 1);
        c.due("the second bill is not the first", y.lent(1, 4, 5, 0, 4, 5), NONE);
        OldestCoins z = Towns.of("0 3y1,4y2", "1 4y3");
        c.due("all of the first go: with one lent it is not met", z.lent(0, 4, 7, 1, 4, 8), NONE);
    }

    private static void lentToItself() {
        c.part("BAD: also one PURSE twice");
        OldestCoins x = Towns.of("0 3y1", "1 3y1", "2 3y1", "3 3y1");
        for (int first = 0; first < 4; first++) {
            for (int second = 0; second < 4; second++) {
                c.due(first + " to " + second, x.lent(first, 4, 3, second, 5, 3), first == second ? BAD : NONE);
            }
            c.due("one shop twice is well", x.lent(first, 7, 3, (first + 1) % 4, 7, 3), NONE);
        }
    }
}
