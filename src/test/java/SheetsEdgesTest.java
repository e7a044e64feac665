/** The document's part 4, promises 28 to 32, and SEEN of its part 3, sentence by sentence: its edges. */
public final class SheetsEdgesTest {
    private static final int BAD = -1, NOT = -2, NONE = -4, NULL = -11, CAST = -12, INDEX = -13, SIZE = -14;
    private static final Check c = new Check();

    public static void main(String[] args) {
        nothingAtFirst();
        eachSheetAndLane();
        noItems();
        allItems();
        newRowInPlace();
        sizes();
        dropOfEach();
        lowestBits();
        itemsApart();
        seenWorths();
        seenSums();
        seenManyPaid();
        seenDueBack();
        seenEachForItself();
        seenFirst();
        seenFromOneOn();
        seenOfEachLane();
        filmByLaws();
        filmOfNone();
        filmThatJustFits();
        filmOfMoreThan24();
        filmToEachLane();
        c.end();
    }

    /** A row of ints in sheet 0. */
    private static OldestCoins row(long... items) {
        OldestCoins x = new OldestCoins();
        put(x, 0, 1, items);
        return x;
    }

    private static void put(OldestCoins x, int sheet, int lane, long... items) {
        c.due("sheet", x.sheet(sheet, lane, items.length), items.length);
        for (int i = 0; i < items.length; i++) {
            c.due("item", x.item(sheet, lane, i, items[i]), 1);
        }
    }

    /** What item i is, if it is 1 .. 99; NOT if not. */
    private static int value(OldestCoins x, int sheet, int lane, int i) {
        for (int v = 1; v <= 99; v++) {
            int got = x.seen(sheet, lane, i, 1, v, 1, 0, -1);
            if (got != NONE) {
                return got == 1 ? v : got;
            }
        }
        return NONE;
    }

    private static void nothingAtFirst() {
        c.part("sheets 0 .. 3: nothing (at first)");
        OldestCoins x = Towns.of("0 5y1");
        for (int sheet = 0; sheet < 4; sheet++) {
            c.due("drop", x.drop(sheet), NULL);
            for (int lane = 0; lane < 3; lane++) {
                c.due("item", x.item(sheet, lane, 0, 1), NULL);
                c.due("film", x.film(0, sheet, lane, 0), NULL);
                c.due("film of no coins", x.film(1, sheet, lane, 0), NULL);
                c.due("seen", x.seen(sheet, lane, 0, 1, 1, 1, 0, 0), NULL);
            }
        }
        c.due("drop", x.drop(4), BAD);
        c.due("drop", x.drop(-1), BAD);
    }

    private static void eachSheetAndLane() {
        c.part("a row of a LANE: 0 bytes, 1 ints, 2 longs; CAST (of SHEETS another LANE)");
        for (int sheet = 0; sheet < 4; sheet++) {
            for (int lane = 0; lane < 3; lane++) {
                OldestCoins x = Towns.of("0 5y1");
                c.due("sheet", x.sheet(sheet, lane, 1), 1);
                for (int as = 0; as < 3; as++) {
                    c.due("item", x.item(sheet, as, 0, 9), as == lane ? 1 : CAST);
                    c.due("seen", x.seen(sheet, as, 0, 1, 9, 1, 0, 0), as == lane ? 0 : CAST);
                    c.due("film of no coins", x.film(1, sheet, as, 0), as == lane ? 0 : CAST);
                }
                for (int other = 0; other < 4; other++) {
                    c.due("drop", x.drop(other), other == sheet ? 1 : NULL);
                }
            }
        }
    }

    private static void noItems() {
        c.part("of 0 to 24 items: 0");
        for (int lane = 0; lane < 3; lane++) {
            OldestCoins x = Towns.of("0 5y1");
            c.due("sheet", x.sheet(2, lane, 0), 0);
            c.due("item", x.item(2, lane, 0, 1), INDEX);
            c.due("item", x.item(2, lane, -1, 1), INDEX);
            c.due("seen", x.seen(2, lane, 0, 1, 1, 1, 0, 0), INDEX);
            c.due("film", x.film(0, 2, lane, 0), INDEX);
            c.due("film of no coins", x.film(1, 2, lane, 0), 0);
            c.due("it is not nothing", x.drop(2), 0);
            c.due("now it is nothing", x.drop(2), NULL);
        }
    }

    private static void allItems() {
        c.part("of 0 to 24 items: 24");
        for (int lane = 0; lane < 3; lane++) {
            OldestCoins x = new OldestCoins();
            c.due("sheet", x.sheet(1, lane, 24), 24);
            for (int i = 0; i < 24; i++) {
                c.due("its items are 0", x.seen(1, lane, i, 1, 1, 1, 0, 0), NOT);
                c.due("item", x.item(1, lane, i, 10 + i), 1);
            }
            c.due("item 24", x.item(1, lane, 24, 1), INDEX);
            for (int i = 0; i < 24; i++) {
                c.due("item " + i, x.seen(1, lane, i, 1, 10 + i, 1, 0, 0), 0);
            }
            c.due("the last four", x.seen(1, lane, 20, 4, 126, 4, 0, -1), 24);
            c.due("four from 21 on", x.seen(1, lane, 21, 4, 96, 4, 0, -1), INDEX);
        }
    }

    private static void newRowInPlace() {
        c.part("sheet: A SHEET holds a new row of a LANE: n.");
        OldestCoins x = row(5, 6, 7, 8);
        c.due("of the same lane", x.sheet(0, 1, 4), 4);
        for (int i = 0; i < 4; i++) {
            c.due("it is new: 0", x.seen(0, 1, i, 1, 1, 1, 0, 0), NOT);
        }
        x.item(0, 1, 3, 8);
        c.due("shorter", x.sheet(0, 1, 2), 2);
        c.due("shorter", x.item(0, 1, 2, 1), INDEX);
        c.due("longer again", x.sheet(0, 1, 4), 4);
        c.due("what was behind is 0, too", x.seen(0, 1, 3, 1, 8, 1, 0, 0), NOT);
        c.due("of another lane", x.sheet(0, 2, 3), 3);
        c.due("of another lane", x.item(0, 1, 0, 1), CAST);
        c.due("of another lane", x.item(0, 2, 2, 1), 1);
        c.due("refused: it stays", x.sheet(0, 0, -1), SIZE);
        c.due("refused: it stays", x.sheet(0, 0, 25), BAD);
        c.due("it stays", value(x, 0, 2, 2), 1);
        c.due("it stays", x.drop(0), 3);
    }

    private static void sizes() {
        c.part("sheet: BAD: also n above 24; SIZE: n below 0");
        for (int lane = 0; lane < 3; lane++) {
            OldestCoins x = new OldestCoins();
            c.due("-1", x.sheet(0, lane, -1), SIZE);
            c.due("the least", x.sheet(0, lane, Integer.MIN_VALUE), SIZE);
            c.due("25", x.sheet(0, lane, 25), BAD);
            c.due("the most", x.sheet(0, lane, Integer.MAX_VALUE), BAD);
            c.due("it still holds nothing", x.drop(0), NULL);
            c.due("0", x.sheet(0, lane, 0), 0);
            c.due("24", x.sheet(0, lane, 24), 24);
        }
    }

    private static void dropOfEach() {
        c.part("drop: A SHEET holds nothing: how many items it had. BAD; NULL.");
        OldestCoins x = new OldestCoins();
        int[] sizes = {0, 1, 23, 24};
        for (int sheet = 0; sheet < 4; sheet++) {
            x.sheet(sheet, sheet % 3, sizes[sheet]);
        }
        for (int sheet = 3; sheet >= 0; sheet--) {
            c.due("drop", x.drop(sheet), sizes[sheet]);
            c.due("again", x.drop(sheet), NULL);
            c.due("nothing", x.item(sheet, sheet % 3, 0, 1), NULL);
        }
        x.sheet(2, 1, 3);
        c.due("again with a row", x.drop(2), 3);
        x.sheet(2, 1, 3);
        x.item(2, 1, 0, 7);
        x.drop(2);
        x.sheet(2, 1, 3);
        c.due("a new row behind a drop is 0", x.seen(2, 1, 0, 1, 7, 1, 0, 0), NOT);
    }

    private static void lowestBits() {
        c.part("item: becomes v, its lowest bits: 1.");
        long[][] bytes = {{7, 7}, {256 + 7, 7}, {-256 + 7, 7}, {127, NOT}, {128, NOT}, {255, NOT}, {-1, NOT}, {256, NOT},
            {0x7fffffffffffff63L, 99}, {Long.MIN_VALUE + 1, 1}, {Long.MIN_VALUE, NOT}, {Long.MAX_VALUE, NOT}, {355, 99}, {356, NOT}};
        long[][] ints = {{7, 7}, {256 + 7, NOT}, {(1L << 32) + 7, 7}, {-(1L << 32) + 7, 7}, {(1L << 31) + 7, NOT}, {-1, NOT},
            {Long.MIN_VALUE + 99, 99}, {Long.MIN_VALUE, NOT}, {Long.MAX_VALUE, NOT}, {0xffffffffL, NOT}};
        long[][] longs = {{7, 7}, {99, 99}, {100, NOT}, {0, NOT}, {256 + 7, NOT}, {(1L << 32) + 7, NOT}, {-(1L << 32) + 7, NOT},
            {Long.MIN_VALUE + 7, NOT}, {Long.MAX_VALUE, NOT}, {-1, NOT}};
        long[][][] all = {bytes, ints, longs};
        for (int lane = 0; lane < 3; lane++) {
            for (long[] one : all[lane]) {
                OldestCoins x = new OldestCoins();
                x.sheet(3, lane, 1);
                c.due("item", x.item(3, lane, 0, one[0]), 1);
                c.due("lane " + lane + ", " + one[0], value(x, 3, lane, 0), one[1]);
            }
        }
    }

    private static void itemsApart() {
        c.part("Item i of a SHEET: no other one");
        OldestCoins x = row(1, 2, 3);
        put(x, 1, 1, 4, 5, 6);
        x.item(0, 1, 2, 33);
        x.item(1, 1, 0, 44);
        int[][] due = {{1, 2, 33}, {44, 5, 6}};
        for (int sheet = 0; sheet < 2; sheet++) {
            for (int i = 0; i < 3; i++) {
                c.due("item", value(x, sheet, 1, i), due[sheet][i]);
            }
        }
        c.due("INDEX", x.item(0, 1, 3, 9), INDEX);
        c.due("INDEX", x.item(1, 1, -1, 9), INDEX);
        c.due("INDEX", x.item(1, 1, Integer.MIN_VALUE, 9), INDEX);
        c.due("INDEX", x.item(1, 1, Integer.MAX_VALUE, 9), INDEX);
        c.due("the next sheet's first", value(x, 1, 1, 0), 44);
        c.due("the last sheet's last", value(x, 0, 1, 2), 33);
    }

    private static void seenWorths() {
        c.part("seen: n WORTHS (1 .. 4; 1 .. 99 each); NOT: a WORTH is not as told");
        OldestCoins x = row(1, 99, 0, 100, -1, 50);
        c.due("1", x.seen(0, 1, 0, 1, 1, 1, 0, -1), 1);
        c.due("99", x.seen(0, 1, 1, 1, 99, 1, 0, -1), 1);
        c.due("0", x.seen(0, 1, 2, 1, 1, 1, 0, -1), NOT);
        c.due("100", x.seen(0, 1, 3, 1, 99, 1, 0, -1), NOT);
        c.due("100", x.seen(0, 1, 3, 1, 100, 1, 0, -1), NOT);
        c.due("-1", x.seen(0, 1, 4, 1, 1, 1, 0, -1), NOT);
        c.due("the last of them is 0", x.seen(0, 1, 0, 3, 1, 1, 0, -1), NOT);
        c.due("the last of them is 99", x.seen(0, 1, 0, 2, 1, 1, 0, -1), 1);
        c.due("the first of them is -1", x.seen(0, 1, 4, 2, 50, 1, 0, -1), NOT);
        c.due("behind them one is 0: that does not count", x.seen(0, 1, 1, 1, 98, 1, 1, 0), 0);
        c.due("n 0", x.seen(0, 1, 0, 0, 1, 1, 0, -1), BAD);
        c.due("n 5", x.seen(0, 1, 0, 5, 1, 1, 0, -1), BAD);
        OldestCoins y = row(9, 9, 9, 9);
        for (int n = 1; n <= 4; n++) {
            c.due("n " + n, y.seen(0, 1, 0, n, 9 * n, n, 0, -1), new int[] {1, 2, 6, 24}[n - 1]);
        }
    }

    private static void seenSums() {
        c.part("seen: for a SUM (1 .. 999)");
        OldestCoins x = row(99, 99, 99, 99);
        c.due("0", x.seen(0, 1, 0, 4, 0, 1, 99, -1), BAD);
        c.due("1", x.seen(0, 1, 0, 4, 1, 1, 98, -1), 24);
        c.due("all", x.seen(0, 1, 0, 4, 396, 4, 0, -1), 24);
        c.due("one more than all", x.seen(0, 1, 0, 4, 397, 4, 0, -1), NONE);
        c.due("999", x.seen(0, 1, 0, 4, 999, 4, 0, -1), NONE);
        c.due("1000", x.seen(0, 1, 0, 4, 1000, 4, 0, -1), BAD);
    }

    private static void seenManyPaid() {
        c.part("seen: so many COINS were paid (1 .. 4)");
        OldestCoins x = row(4, 4, 4, 4);
        for (int paid = 1; paid <= 4; paid++) {
            for (int sum = 1; sum <= 17; sum++) {
                int due = (sum + 3) / 4 == paid ? 24 : NONE;
                c.due("sum " + sum + ", paid " + paid, x.seen(0, 1, 0, 4, sum, paid, paid * 4 < sum ? 0 : Math.min(99, paid * 4 - sum), -1), due);
            }
        }
        c.due("0", x.seen(0, 1, 0, 4, 4, 0, 0, -1), BAD);
        c.due("5", x.seen(0, 1, 0, 4, 4, 5, 0, -1), BAD);
        c.due("more than there are", x.seen(0, 1, 0, 3, 12, 4, 0, -1), NONE);
        c.due("more than there are", x.seen(0, 1, 0, 1, 4, 2, 0, -1), NONE);
        OldestCoins y = row(1, 9);
        c.due("1, then 9: two are paid for 2", y.seen(0, 1, 0, 2, 2, 2, 8, -1), 1);
        c.due("9 first: one is paid for 2", y.seen(0, 1, 0, 2, 2, 1, 7, -1), 1);
        c.due("9 first: one is paid for 9", y.seen(0, 1, 0, 2, 9, 1, 0, -1), 1);
        c.due("1, then 9: two are paid for 9", y.seen(0, 1, 0, 2, 9, 2, 1, -1), 1);
        c.due("both", y.seen(0, 1, 0, 2, 10, 2, 0, -1), 2);
    }

    private static void seenDueBack() {
        c.part("seen: so much was DUE back (change 0 .. 99)");
        OldestCoins x = row(99, 1);
        c.due("-1", x.seen(0, 1, 0, 2, 1, 1, -1, -1), BAD);
        c.due("0", x.seen(0, 1, 0, 2, 1, 1, 0, -1), 1);
        c.due("98", x.seen(0, 1, 0, 2, 1, 1, 98, -1), 1);
        c.due("99", x.seen(0, 1, 0, 2, 1, 1, 99, -1), NONE);
        c.due("100", x.seen(0, 1, 0, 2, 1, 1, 100, -1), BAD);
        c.due("one less", x.seen(0, 1, 0, 2, 1, 1, 97, -1), NONE);
        c.due("1, then 99 for 2", x.seen(0, 1, 0, 2, 2, 2, 98, -1), 1);
        c.due("1, then 99 for 2: one more", x.seen(0, 1, 0, 2, 2, 2, 99, -1), NONE);
    }

    private static void seenEachForItself() {
        c.part("seen: orders of all of them (each COIN for itself): how many");
        OldestCoins x = row(3, 3, 5, 5);
        c.due("3 first", x.seen(0, 1, 0, 4, 3, 1, 0, -1), 12);
        c.due("5 first", x.seen(0, 1, 0, 4, 5, 1, 0, -1), 12);
        c.due("3, 3", x.seen(0, 1, 0, 4, 6, 2, 0, -1), 4);
        c.due("3, 5 or 5, 3", x.seen(0, 1, 0, 4, 8, 2, 0, -1), 16);
        c.due("3, 3, 5 in any order; 3, 5, 5 is more", x.seen(0, 1, 0, 4, 11, 3, 0, -1), 12);
        c.due("all", x.seen(0, 1, 0, 4, 16, 4, 0, -1), 24);
        c.due("of three", x.seen(0, 1, 0, 3, 6, 2, 0, -1), 2);
        c.due("of one", x.seen(0, 1, 2, 1, 5, 1, 0, -1), 1);
    }

    private static void seenFirst() {
        c.part("seen: the k-th item of the first (0 ..); BAD: also k not below n");
        OldestCoins x = row(3, 3, 5, 5);
        int[][] five = {{2, 0, 1, 3}, {0, 1, 2, 3}, {0, 2, 1, 3}};
        int[][] bills = {{5, 1}, {6, 2}, {8, 2}};
        for (int i = 0; i < 3; i++) {
            for (int k = 0; k < 4; k++) {
                c.due("sum " + bills[i][0] + ", item " + k, x.seen(0, 1, 0, 4, bills[i][0], bills[i][1], 0, k), five[i][k]);
            }
        }
        for (int n = 1; n <= 4; n++) {
            c.due("the last item of " + n, x.seen(0, 1, 0, n, 3, 1, 0, n - 1), n - 1);
            c.due("k is n", x.seen(0, 1, 0, n, 3, 1, 0, n), BAD);
            c.due("k is -2", x.seen(0, 1, 0, n, 3, 1, 0, -2), BAD);
            c.due("there are none", x.seen(0, 1, 0, n, 2, 1, 0, n - 1), NONE);
            c.due("there are none", x.seen(0, 1, 0, n, 2, 1, 0, -1), NONE);
        }
        OldestCoins last = row(1, 2, 3, 4);
        int[] due = {3, 0, 1, 2};
        for (int k = 0; k < 4; k++) {
            c.due("the 4 first, item " + k, last.seen(0, 1, 0, 4, 4, 1, 0, k), due[k]);
        }
        OldestCoins only = row(1, 2, 4, 8);
        int[] rest = {0, 1, 2, 3};
        for (int k = 0; k < 4; k++) {
            c.due("all, item " + k, only.seen(0, 1, 0, 4, 15, 4, 0, k), rest[k]);
            c.due("8 last, item " + k, only.seen(0, 1, 0, 4, 8, 4, 7, k), rest[k]);
        }
    }

    private static void seenFromOneOn() {
        c.part("seen: items of a SHEET, from one on; INDEX");
        OldestCoins x = row(0, 7, 8, 9, 0);
        c.due("the middle", x.seen(0, 1, 1, 3, 24, 3, 0, -1), 6);
        c.due("from the second of them", x.seen(0, 1, 2, 2, 17, 2, 0, -1), 2);
        c.due("NOT ahead of it", x.seen(0, 1, 0, 2, 7, 1, 0, -1), NOT);
        c.due("NOT behind it", x.seen(0, 1, 3, 2, 9, 1, 0, -1), NOT);
        c.due("just inside", x.seen(0, 1, 1, 4, 7, 1, 0, -1), NOT);
        c.due("just outside", x.seen(0, 1, 2, 4, 8, 1, 0, -1), INDEX);
        c.due("the length", x.seen(0, 1, 5, 1, 8, 1, 0, -1), INDEX);
        c.due("below", x.seen(0, 1, -1, 1, 8, 1, 0, -1), INDEX);
        c.due("the least", x.seen(0, 1, Integer.MIN_VALUE, 4, 8, 1, 0, -1), INDEX);
        c.due("the most", x.seen(0, 1, Integer.MAX_VALUE, 4, 8, 1, 0, -1), INDEX);
        c.due("more than all", row(5, 5).seen(0, 1, 0, 3, 5, 1, 0, -1), INDEX);
    }

    private static void seenOfEachLane() {
        c.part("seen: items of a SHEET, taken as a row of a LANE");
        for (int sheet = 0; sheet < 4; sheet++) {
            for (int lane = 0; lane < 3; lane++) {
                OldestCoins x = new OldestCoins();
                put(x, sheet, lane, 99, 1);
                for (int as = 0; as < 3; as++) {
                    c.due("lane " + as, x.seen(sheet, as, 0, 2, 100, 2, 0, -1), as == lane ? 2 : CAST);
                }
            }
        }
    }

    /** Coins 1 (5, 30), 2 (9, 10), 3 (1, 20), 4 (9, 40) of purse 3; coin 0 is another's. */
    private static void filmByLaws() {
        c.part("film: Numbers of the COINS of a HOLDER, as they would be paid, come to a SHEET");
        int[][] due = {{2, 3, 1, 4}, {4, 1, 3, 2}, {3, 1, 2, 4}, {2, 4, 1, 3}};
        for (int holder = 0; holder < 8; holder++) {
            for (int law = 0; law < 4; law++) {
                OldestCoins x = Towns.of((holder + 1) % 8 + " 1y1", holder + " 5y30,9y10,1y20,9y40");
                x.rule(law);
                put(x, 0, 1, 77, 0, 0, 0, 0, 78);
                c.due("film", x.film(holder, 0, 1, 1), 4);
                c.due("ahead", value(x, 0, 1, 0), 77);
                for (int i = 0; i < 4; i++) {
                    c.due("law " + law + ", item " + i, value(x, 0, 1, 1 + i), due[law][i]);
                }
                c.due("behind", value(x, 0, 1, 5), 78);
            }
        }
    }

    private static void filmOfNone() {
        c.part("film of no COINS");
        OldestCoins x = row(5, 6);
        c.due("the first", x.film(0, 0, 1, 0), 0);
        c.due("the last", x.film(0, 0, 1, 1), 0);
        c.due("the length", x.film(0, 0, 1, 2), 0);
        c.due("beyond it", x.film(0, 0, 1, 3), INDEX);
        c.due("below", x.film(0, 0, 1, -1), INDEX);
        c.due("nothing is changed", value(x, 0, 1, 0), 5);
        c.due("nothing is changed", value(x, 0, 1, 1), 6);
    }

    private static void filmThatJustFits() {
        c.part("film: from one on: how many; INDEX");
        for (int n = 1; n <= 4; n++) {
            for (int from = -1; from <= 5; from++) {
                OldestCoins x = row(50, 51, 52, 53);
                x.coin(1, 1, 1, 0);
                for (int i = 0; i < n; i++) {
                    x.coin(0, 1, 99 - i, 0);
                }
                boolean fits = from >= 0 && from + n <= 4;
                c.due(n + " from " + from, x.film(0, 0, 1, from), fits ? n : INDEX);
                for (int i = 0; i < 4; i++) {
                    boolean isNew = fits && i >= from && i < from + n;
                    c.due(n + " from " + from + ", item " + i, value(x, 0, 1, i), isNew ? n - (i - from) : 50 + i);
                }
            }
        }
        OldestCoins y = row(50, 51);
        y.coin(0, 1, 1, 0);
        c.due("the most", y.film(0, 0, 1, Integer.MAX_VALUE), INDEX);
        c.due("the least", y.film(0, 0, 1, Integer.MIN_VALUE), INDEX);
        c.due("coin 0 is 0", y.film(0, 0, 1, 1), 1);
        c.due("coin 0 is 0", value(y, 0, 1, 1), NOT);
    }

    private static void filmOfMoreThan24() {
        c.part("film of 24 COINS, and of 25");
        OldestCoins x = new OldestCoins();
        x.sheet(0, 0, 24);
        x.coin(1, 1, 1, 0);
        for (int i = 1; i <= 24; i++) {
            x.coin(0, 1, i, 0);
        }
        c.due("24", x.film(0, 0, 0, 0), 24);
        c.due("the last", value(x, 0, 0, 23), 24);
        c.due("24 from 1 on", x.film(0, 0, 0, 1), INDEX);
        x.give(0, 0);
        c.due("25", x.film(0, 0, 0, 0), INDEX);
        c.due("the last stays", value(x, 0, 0, 23), 24);
        c.due("25, the most", x.film(0, 0, 0, Integer.MAX_VALUE), INDEX);
    }

    private static void filmToEachLane() {
        c.part("film: taken as a row of a LANE");
        for (int sheet = 0; sheet < 4; sheet++) {
            for (int lane = 0; lane < 3; lane++) {
                OldestCoins x = Towns.of("7 1y1", "4 5y9,5y8");
                put(x, sheet, lane, 50, 51);
                for (int as = 0; as < 3; as++) {
                    c.due("film", x.film(4, sheet, as, 0), as == lane ? 2 : CAST);
                }
                c.due("item 0", value(x, sheet, lane, 0), 2);
                c.due("item 1", value(x, sheet, lane, 1), 1);
                c.due("INDEX", x.film(4, sheet, lane, 1), INDEX);
            }
        }
    }
}
