/** Towns that tests begin with; each call makes a new object. */
final class Towns {
    private Towns() {
    }

    /** Coins as texts, a holder's digit and a blank ahead of each: "0 5y1,3y2f9", "4 1y1". */
    static OldestCoins of(String... purses) {
        OldestCoins x = new OldestCoins();
        for (String p : purses) {
            int n = p.split(",").length;
            int got = Check.purseOf(x, p.charAt(0) - '0', p.substring(2));
            if (got != n) {
                throw new IllegalStateException("the purse " + p + " answered " + got);
            }
        }
        return x;
    }

    /** Of all there is something, and an image that is not as all is now; each thing still has room for more. */
    static OldestCoins busy() {
        OldestCoins x = of("0 5y3,2y1f4,5y2,9y4b", "1 4y1w,3y3", "4 3y8,1y7,3y6", "5 2y9");
        x.errand(4, 5);
        x.errand(5, 3);
        Check.dayOf(x, "0>4:6,1>5:2,0>4:1");
        x.image();
        x.stamp(1, 50);
        x.give(5, 6);
        x.rule(3);
        x.errand(4, 999);
        x.errand(6, 7);
        Check.dayOf(x, "0>4:6,0>5:2,1>4:3,0>6:1");
        x.coin(3, 8, 8, 0);
        sheets(x);
        Check.typed(x, "6y5 ");
        return x;
    }

    /** 40 coins, 6 errands, 24 bills, a tape of 160 bytes (its text has a fault), an image of the same. */
    static OldestCoins full() {
        OldestCoins x = new OldestCoins();
        for (int holder = 0; holder < 8; holder += 2) {
            x = filled(x, holder, 10);
        }
        for (int i = 0; i < 6; i++) {
            x.errand(4 + i % 4, 1 + i);
        }
        Check.dayOf(x, day(24));
        x.image();
        sheets(x);
        Check.typed(x, "x".repeat(160));
        return x;
    }

    static OldestCoins filled(OldestCoins x, int holder, int n) {
        StringBuilder text = new StringBuilder();
        for (int i = 0; i < n; i++) {
            text.append(i == 0 ? "" : ",").append(1 + i * 3 % 7).append('y').append(90 - 7 * i).append(i == 4 ? "w" : i == 7 ? "b" : "");
        }
        Check.purseOf(x, holder, text.toString());
        return x;
    }

    static String day(int n) {
        StringBuilder text = new StringBuilder();
        for (int i = 0; i < n; i++) {
            text.append(i == 0 ? "" : ",").append(i % 2 * 2).append('>').append(4 + i % 4).append(":1");
        }
        return text.toString();
    }

    /** Sheets of each lane, whose items are 5, 6, 7, 8; sheet 3 holds nothing. */
    private static void sheets(OldestCoins x) {
        for (int sheet = 0; sheet < 3; sheet++) {
            int lane = (sheet + 1) % 3;
            x.sheet(sheet, lane, 4);
            for (int i = 0; i < 4; i++) {
                x.item(sheet, lane, i, 5 + i);
            }
        }
    }
}
