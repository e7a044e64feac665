/** The document's part 3 (but for its texts) and promises 22 to 27, sentence by sentence: its edges. */
public final class DaysEdgesTest {
    private static final int BAD = -1, NONE = -4, BAD_GAIN = -100001;
    private static final Check c = new Check();

    public static void main(String[] args) {
        noDay();
        upTo24();
        overAndOver();
        firstNotMetEndsAll();
        whereBehindRuns();
        whereAtTheEnd();
        runsOfFifty();
        gainMoreAndLess();
        gainOfEachKind();
        gainWhereADayEnds();
        gainBounds();
        showsFirst();
        showsWhereItIsNotRun();
        showsNowhere();
        showsByStampAsItIs();
        imageOfAll();
        imageIsNotTouched();
        restoreAgain();
        restoreOfNothing();
        c.end();
    }

    private static OldestCoins with(String day, String... purses) {
        OldestCoins x = Towns.of(purses);
        int n = day.split(",").length;
        c.due("day " + day, Check.dayOf(x, day), n);
        return x;
    }

    private static void noDay() {
        c.part("THE DAY is a row of up to 24 BILLS: none at first");
        OldestCoins x = Towns.of("0 5y1", "4 3y1");
        c.due("run", x.run(1), 0);
        c.due("run", x.run(50), 0);
        c.due("where", x.where(0, 50), 0);
        c.due("where", x.where(1, 1), 4);
        c.due("gain", x.gain(0, 0, 99), 0);
        c.due("shows", x.shows(0, 99), NONE);
        c.row("holders", Check.holders(x), 0, 4);
    }

    private static void upTo24() {
        c.part("THE DAY is a row of up to 24 BILLS");
        OldestCoins x = new OldestCoins();
        for (int i = 0; i < 24; i++) {
            x.coin(0, 1, i, 0);
        }
        StringBuilder day = new StringBuilder("0>4:1");
        for (int i = 1; i < 24; i++) {
            day.append(",0>").append(4 + i % 4).append(":1");
        }
        c.due("24", Check.dayOf(x, day.toString()), 24);
        c.due("the last one shows: it is paid by 23", x.where(23, 1), 7);
        c.due("as old as 0, but of a greater number: the second shows", x.shows(23, 0), 1);
        c.due("all 24 are run", x.run(1), 24);
        for (int i = 0; i < 24; i++) {
            c.due("coin " + i, x.told(i, 4), 4 + i % 4);
        }
    }

    private static void overAndOver() {
        c.part("run one behind the other, over and over");
        OldestCoins x = with("0>4:1,1>5:1", "0 1y1,1y2,1y3", "1 1y1,1y2,1y3");
        c.due("twice", x.run(2), 4);
        c.row("holders", Check.holders(x), 4, 4, 0, 5, 5, 1);
        c.due("again, it ends", x.run(2), 2);
        c.row("holders", Check.holders(x), 4, 4, 4, 5, 5, 5);
        c.due("nothing more", x.run(50), 0);
    }

    private static void firstNotMetEndsAll() {
        c.part("the first that is NOT MET ends all (it is not run, nor any behind)");
        OldestCoins x = with("0>4:9,1>5:1", "0 8y1", "1 1y1");
        c.due("the first", x.run(50), 0);
        c.row("nothing goes", Check.holders(x), 0, 1);
        OldestCoins y = with("1>5:1,0>4:9,1>6:1", "0 8y1", "1 1y1,1y2,1y3");
        c.due("the second: no more runs", y.run(50), 1);
        c.row("holders", Check.holders(y), 0, 5, 1, 1);
        OldestCoins z = with("1>5:1,1>6:1", "1 1y1,1y2,1y3");
        c.due("in the second run", z.run(50), 3);
        c.row("holders", Check.holders(z), 5, 6, 5);
        OldestCoins w = with("1>5:1,0>4:9", "0 8y1,1y1", "1 1y1");
        c.due("all are run once, the first is not met then", w.run(50), 2);
        c.row("holders", Check.holders(w), 4, 4, 5);
    }

    private static void whereBehindRuns() {
        c.part("WHERE: whose a COIN is behind n runs of THE DAY");
        OldestCoins x = with("0>4:1", "0 1y1,1y2,1y3");
        int[][] due = {{4, 0, 0}, {4, 4, 0}, {4, 4, 4}, {4, 4, 4}};
        for (int n = 1; n <= 4; n++) {
            for (int coin = 0; coin < 3; coin++) {
                c.due("coin " + coin + " behind " + n, x.where(coin, n), due[n - 1][coin]);
            }
        }
        c.row("nothing is changed by it", Check.holders(x), 0, 0, 0);
        c.due("nothing is changed by it", x.run(50), 3);
    }

    private static void whereAtTheEnd() {
        c.part("WHERE: ... or at that end");
        OldestCoins x = with("0>4:3,0>5:2,1>6:1", "0 3y1,1y2", "1 1y1");
        c.due("the first is run", x.where(0, 1), 4);
        c.due("the second is not", x.where(1, 1), 0);
        c.due("nor any behind", x.where(2, 1), 1);
        c.due("nor later", x.where(2, 50), 1);
        OldestCoins y = with("0>4:1", "0 2y1", "4 1y9", "7 5y5");
        c.due("2 goes, 1 comes", y.where(1, 1), 0);
        c.due("1 goes", y.where(1, 2), 4);
        c.due("the end", y.where(1, 3), 4);
        c.due("whose no bill is", y.where(2, 50), 7);
    }

    /** A coin of worth 1 a run: 40 coins are run through by 40 runs. */
    private static void runsOfFifty() {
        c.part("n times (1 .. 50)");
        OldestCoins x = new OldestCoins();
        for (int i = 0; i < 40; i++) {
            x.coin(0, 1, i, 0);
        }
        Check.dayOf(x, "0>4:1");
        c.due("behind 39", x.where(39, 39), 0);
        c.due("behind 40", x.where(39, 40), 4);
        c.due("behind 50", x.where(39, 50), 4);
        c.due("50 runs", x.run(50), 40);
        OldestCoins y = Towns.of("0 2y1", "4 1y1");
        Check.dayOf(y, "0>4:1");
        c.due("0", y.run(0), BAD);
        c.due("51", y.run(51), BAD);
        c.due("0", y.where(0, 0), BAD);
        c.due("51", y.where(0, 51), BAD);
        c.row("nothing goes", Check.holders(y), 0, 4);
        OldestCoins z = Towns.of("0 1y50,1y50b", "4 1y0w");
        Check.dayOf(z, "0>4:1");
        c.due("1", z.run(1), 1);
        c.due("an odd number of runs: 2 coins", z.run(50), 1);
    }

    private static void gainMoreAndLess() {
        c.part("GAIN: how much more WORTH a PURSE has behind one run of THE DAY");
        OldestCoins x = with("0>4:1", "0 9y10,2y20");
        c.due("newer than the 2", x.gain(0, 0, 21), 7);
        c.due("as old as the 2: the lesser number is older", x.gain(0, 0, 20), 0);
        c.due("still older", x.gain(0, 0, 19), 0);
        c.due("the most", x.gain(0, 0, 99), 7);
        c.due("the least", x.gain(0, 0, 0), 0);
        c.due("the 2 is older", x.gain(0, 1, 9), 7);
        c.due("the 2 as old as the 9: the lesser number is older", x.gain(0, 1, 10), 0);
        OldestCoins y = with("0>4:1", "0 2y10,9y20");
        c.due("below 0", y.gain(0, 0, 21), -7);
        c.due("below 0", y.gain(0, 1, 9), -7);
        c.due("of another PURSE", y.gain(1, 1, 9), 0);
        OldestCoins z = with("0>4:1,0>4:1,0>4:1", "0 2y10,2y11,2y12,99y13");
        c.due("the 99 is the first: a 2 is left in place of it", z.gain(0, 3, 0), -97);
        c.due("one run: the 99 stays", z.gain(0, 3, 99), 0);
        OldestCoins w = with("0>4:1", "0 9y1", "4 1y9,8y8");
        c.due("8 due: the 8 in place of the 1, for it is newer", w.gain(0, 2, 99), 7);
        c.due("8 due: the 1 is older", w.gain(0, 1, 0), 7);
    }

    private static void gainOfEachKind() {
        c.part("GAIN: if a COIN is FORGED with a told STAMP, than if all is as it is");
        OldestCoins worn = with("0>4:1", "0 9y10w,2y20");
        c.due("a worn one has a stamp then", worn.gain(0, 0, 21), 7);
        c.due("a worn one has a stamp then", worn.gain(0, 0, 19), 0);
        OldestCoins bent = with("0>4:1", "0 2y10b,9y20");
        c.due("a bent one has a stamp then", bent.gain(0, 0, 19), 7);
        c.due("a bent one has a stamp then", bent.gain(0, 0, 21), 0);
        OldestCoins forged = with("0>4:1", "0 2y10f30,9y20");
        c.due("another stamp", forged.gain(0, 0, 19), 7);
        c.due("the stamp that it has", forged.gain(0, 0, 30), 0);
        OldestCoins old = with("0>4:1", "0 2y20,9y10w");
        c.due("0 is not as old as a worn one", old.gain(0, 0, 0), 0);
        OldestCoins young = with("0>4:1", "0 2y20,9y10b");
        c.due("99 is not as new as a bent one", young.gain(0, 0, 99), 0);
        for (int coin = 0; coin < 2; coin++) {
            c.due("the kind stays", worn.told(coin, 3), coin == 0 ? 2 : 0);
            c.due("the stamp stays", worn.told(coin, 2), coin == 0 ? 10 : 20);
        }
    }

    private static void gainWhereADayEnds() {
        c.part("GAIN, where the first that is NOT MET ends all");
        OldestCoins x = with("0>4:1,0>5:9,0>6:1", "0 9y10,2y20");
        c.due("as it is: 9, then not met; else 2, 9: nothing is left", x.gain(0, 0, 99), -2);
        OldestCoins y = with("0>4:1,0>5:9,1>6:1", "0 2y10,9y20", "1 5y1");
        c.due("as it is all is run; else the 9, then not met", y.gain(0, 0, 99), 2);
        c.due("of the other PURSE, whose bill is not run then", y.gain(1, 0, 99), 5);
        OldestCoins z = with("0>4:99", "0 9y10,2y20");
        c.due("nothing is run by both", z.gain(0, 0, 99), 0);
    }

    private static void gainBounds() {
        c.part("Where a told thing may be below 0, refused ones are 100000 less (-100001 and so on)");
        OldestCoins x = with("0>4:1", "0 9y10,2y20");
        int[][] wrong = {{-1, 0, 0}, {4, 0, 0}, {0, -1, 0}, {0, 2, 0}, {0, 0, -1}, {0, 0, 100}, {9, 9, 999}};
        for (int[] w : wrong) {
            c.due("gain " + w[0] + " " + w[1] + " " + w[2], x.gain(w[0], w[1], w[2]), BAD_GAIN);
        }
        c.due("all others are as they are", x.shows(2, 0), BAD);
    }

    private static void showsFirst() {
        c.part("SHOWS: the first BILL of THE DAY, run once, for which by that other COINS are paid");
        OldestCoins x = with("0>4:1,0>5:1,0>6:1", "0 1y10,1y20,1y30");
        c.due("the first", x.shows(2, 9), 0);
        c.due("the second: as old as 0, but of a greater number", x.shows(2, 10), 1);
        c.due("the second", x.shows(2, 19), 1);
        c.due("nowhere: as old as 1", x.shows(2, 20), NONE);
        c.due("the second, by 1 behind 2", x.shows(1, 31), 1);
        c.due("nowhere: as old as 2, of a lesser number", x.shows(1, 30), NONE);
        OldestCoins y = with("0>4:1,0>5:1,0>6:1", "0 1y10,1y20,1y30,1y40");
        c.due("the third and last: 3 in place of 2", y.shows(2, 41), 2);
        c.due("the third and last: 3 in place of 2", y.shows(3, 29), 2);
        OldestCoins z = with("0>4:2", "0 1y10,1y20,1y30");
        c.due("the same COINS the other way round are no other ones", z.shows(1, 0), NONE);
        c.due("one other COIN", z.shows(2, 15), 0);
        OldestCoins more = with("0>4:2", "0 1y10,5y20");
        c.due("as it is 1 and 5, else the 5 alone", more.shows(0, 21), 0);
        c.due("as it is 1 and 5, else the 5 alone", more.shows(1, 9), 0);
        OldestCoins less = with("0>4:2", "0 5y10,1y20");
        c.due("as it is the 5, else 1 and 5", less.shows(0, 21), 0);
        c.due("as it is the 5, else 1 and 5", less.shows(1, 9), 0);
    }

    private static void showsWhereItIsNotRun() {
        c.part("SHOWS: (none, where it is not run)");
        OldestCoins x = with("0>4:1,0>5:9", "0 2y10,9y20");
        c.due("as it is both are run; else the first shows", x.shows(0, 21), 0);
        OldestCoins y = with("0>4:1,0>5:7,1>6:1", "0 9y1", "4 1y9,7y8", "1 1y1");
        c.due("8 due: 1, 7 come by both, but then the 1 is the older one", y.shows(2, 99), 1);
        OldestCoins z = with("0>4:2,0>5:6,1>6:1", "0 9y1", "4 3y9,4y8,3y7", "1 1y1");
        c.due("7 due: 3, 4 as it is; 3, 3 else: the second is run only as it is", z.shows(3, 99), 1);
        OldestCoins w = with("0>4:2,0>5:7,1>6:1", "0 9y1", "4 3y9,4y8,3y7", "1 1y1");
        c.due("7 due: the same, 7 is met as it is only", w.shows(3, 99), 1);
        OldestCoins v = with("0>4:2,0>5:8,1>6:1", "0 9y1", "4 3y9,4y8,3y7", "1 1y1");
        c.due("8 is met by none: the third is not run by both", v.shows(3, 99), NONE);
        OldestCoins u = with("0>4:2,0>5:7,1>6:1", "0 9y1", "4 3y9,4y6,3y7", "1 1y1");
        c.due("the second is run only else", u.shows(2, 8), 1);
    }

    private static void showsNowhere() {
        c.part("shows: NONE: nowhere");
        OldestCoins x = with("0>4:99,0>5:1", "0 9y10,2y20");
        c.due("the first is not met by both", x.shows(0, 99), NONE);
        OldestCoins y = with("0>4:1", "0 9y10", "1 3y3", "5 2y2");
        for (int coin = 0; coin < 3; coin++) {
            c.due("whatever the stamp", y.shows(coin, 0), NONE);
            c.due("whatever the stamp", y.shows(coin, 99), NONE);
        }
        OldestCoins z = with("0>4:1,0>4:1", "0 1y10,1y20,1y30");
        c.due("in a second run it would", z.shows(2, 25), NONE);
        OldestCoins w = with("0>4:1", "0 1y10,1y20");
        c.due("in a second run it would", w.shows(1, 15), NONE);
    }

    private static void showsByStampAsItIs() {
        c.part("SHOWS of COINS that are forged, worn or bent as it is");
        OldestCoins x = with("0>4:1", "0 1y10,1y0f20,1y50w,1y50b");
        c.due("a worn one that gets a stamp: the next is 0", x.shows(2, 11), 0);
        c.due("a worn one that is still the oldest", x.shows(2, 9), NONE);
        c.due("a worn one as old as 0, of a greater number", x.shows(2, 10), 0);
        c.due("0 is not as old as the worn one", x.shows(0, 0), NONE);
        c.due("a bent one, not as old as the worn one", x.shows(3, 0), NONE);
        x.rule(1);
        c.due("by law 1 the bent one goes first: with a stamp it does not", x.shows(3, 0), 0);
        c.due("99 is newer than the others", x.shows(3, 99), NONE);
        c.due("20: of as old ones the greater number", x.shows(3, 20), NONE);
        c.due("19", x.shows(3, 19), 0);
        x.rule(2);
        c.due("by law 2 of like ones the older: worn", x.shows(2, 11), 0);
        x.rule(3);
        c.due("by law 3 of like ones the older: worn", x.shows(2, 9), NONE);
    }

    private static void imageOfAll() {
        c.part("image: All but SHEETS, THE TAPE is kept as an IMAGE: 1.");
        OldestCoins x = Towns.of("0 5y10f3,2y20", "4 1y1");
        x.rule(2);
        x.errand(4, 2);
        x.errand(5, 5);
        Check.dayOf(x, "0>4:2,0>5:5");
        x.sheet(0, 1, 3);
        x.item(0, 1, 0, 5);
        Check.typed(x, "8y8");
        c.due("image", x.image(), 1);
        x.item(0, 1, 0, 6);
        x.sheet(1, 2, 9);
        c.due("a purse behind it", x.purse(1), 1);
        Check.typed(x, "9y9,");
        x.rule(1);
        x.stamp(0, 99);
        x.give(1, 7);
        x.home();
        x.errand(7, 999);
        x.run(1);
        c.due("restore", x.restore(), 1);
        c.due("coins", x.count(0), 3);
        c.row("holders", Check.holders(x), 0, 0, 4);
        c.due("stamp", x.told(0, 2), 3);
        c.due("errands", x.count(3), 2);
        c.due("both are even, as they were", x.order(0, -1), 2);
        c.due("bills", x.count(2), 2);
        c.due("both are run", x.run(1), 2);
        c.row("holders", Check.holders(x), 5, 4, 4);
        c.due("law", x.rule(0), 2);
        c.due("a sheet's item is as it became", x.seen(0, 1, 0, 1, 6, 1, 0, 0), 0);
        c.due("a sheet made behind it stays", x.drop(1), 9);
        c.due("the tape is as it became", x.type(Check.word("7y7"), 3), 7);
        c.due("the tape is as it became", x.purse(3), 2);
        c.due("numbers go on from where they were", x.told(3, 0), 9);
    }

    private static void imageIsNotTouched() {
        c.part("image: what comes behind it is not of it");
        OldestCoins x = Towns.of("0 5y10");
        x.image();
        for (int i = 1; i < 40; i++) {
            x.coin(0, 1, 1, 0);
        }
        c.due("restore", x.restore(), 1);
        c.due("coins", x.count(0), 1);
        c.due("there is room again", x.coin(6, 7, 8, 3), 1);
        c.due("told", x.told(1, 4), 6);
        c.due("no third", x.told(2, 0), BAD);
        c.due("a coin that came behind is not of the image", x.restore(), 1);
        c.due("coins", x.count(0), 1);
        OldestCoins full = Towns.full();
        full.home();
        full.give(39, 0);
        c.due("restore", full.restore(), 1);
        c.due("all 40", full.count(0), 40);
        c.due("all six", full.count(3), 6);
        c.due("all 24", full.count(2), 24);
        c.due("the last coin", full.told(39, 4), 6);
    }

    private static void restoreAgain() {
        c.part("restore: All is as it was then: 1.");
        OldestCoins x = Towns.of("0 5y10,3y9");
        x.image();
        for (int i = 0; i < 3; i++) {
            c.due("bill", x.bill(0, 4, 8), 0);
            c.due("restore", x.restore(), 1);
            c.row("holders", Check.holders(x), 0, 0);
        }
        x.give(0, 5);
        c.due("a new image in place of the other", x.image(), 1);
        x.give(1, 5);
        c.due("restore", x.restore(), 1);
        c.row("holders", Check.holders(x), 5, 0);
    }

    private static void restoreOfNothing() {
        c.part("restore: NONE: there is none");
        OldestCoins x = Towns.of("0 5y10");
        c.due("none", x.restore(), NONE);
        c.due("nothing is changed", x.count(0), 1);
        OldestCoins y = new OldestCoins();
        c.due("an image of a new object", y.image(), 1);
        y.coin(0, 1, 1, 0);
        y.rule(3);
        y.errand(4, 1);
        Check.dayOf(y, "0>4:1");
        c.due("restore", y.restore(), 1);
        for (int what = 0; what < 4; what++) {
            c.due("count " + what, y.count(what), 0);
        }
        c.due("law", y.rule(0), 0);
    }
}
