import java.util.Collections;

/** PURSES and DAYS as TEXTS, promises 10 and 11, sentence by sentence: their edges. */
public final class TextsEdgesTest {
    private static final int BAD = -1, FULL = -3;
    private static final Check c = new Check();

    public static void main(String[] args) {
        coinsOfAText();
        numbersOfCoins();
        oneToTen();
        kindsOfCoins();
        comesToAHolder();
        purseBadKeepsTheTape();
        purseFull();
        billsOfAText();
        numbersOfBills();
        oneTo24();
        inPlaceOfTheDay();
        blanks();
        placesOfFaults();
        placesOfDayFaults();
        theEnd();
        eachSign();
        eachSignOfADay();
        longTexts();
        c.end();
    }

    private static int purse(String text) {
        return Check.purseOf(new OldestCoins(), 0, text);
    }

    private static int day(String text) {
        return Check.dayOf(new OldestCoins(), text);
    }

    private static void coin(String text, int... due) {
        OldestCoins x = new OldestCoins();
        c.due("purse '" + text + "'", Check.purseOf(x, 2, text), 1);
        for (int what = 0; what < due.length; what++) {
            c.due("'" + text + "', told " + what, x.told(0, what), due[what]);
        }
        c.due("holder", x.told(0, 4), 2);
    }

    private static void coinsOfAText() {
        c.part("a number (WORTH), y and a number (YEAR), perhaps f and a number (FORGED, that STAMP), or w, or b (WORN, BENT)");
        coin("1y0", 1, 0, 0, 0);
        coin("99y99", 99, 99, 99, 0);
        coin("1y0f0", 1, 0, 0, 1);
        coin("99y0f99", 99, 0, 99, 1);
        coin("99y99f0", 99, 99, 0, 1);
        coin("5y6w", 5, 6, 6, 2);
        coin("5y6b", 5, 6, 6, 3);
        coin("10y20f30", 10, 20, 30, 1);
    }

    private static void numbersOfCoins() {
        c.part("of a number that may not be its first byte");
        c.due("worth 0", purse("0y1"), -20);
        c.due("worth 00", purse("00y1"), -20);
        c.due("worth 100", purse("100y1"), -20);
        c.due("worth 99", purse("99y1"), 1);
        c.due("year 100", purse("5y100"), -22);
        c.due("year 99", purse("5y99"), 1);
        c.due("stamp 100", purse("5y1f100"), -24);
        c.due("stamp 99", purse("5y1f99"), 1);
        c.due("a second worth of 0", purse("5y1,0y1"), -24);
        c.due("a second worth of 100", purse("5y1,100y1"), -24);
        c.due("a second year of 100", purse("5y1,5y100"), -26);
        c.due("ahead of what can't stand behind it", purse("100x"), -20);
        c.due("ahead of the end behind it", purse("100"), -20);
        c.due("4294967301, which is 5 in 32 bits", purse("4294967301y1"), -20);
        c.due("18446744073709551621, which is 5 in 64 bits", purse("18446744073709551621y1"), -20);
        c.due("10000000000000000000005", purse("5y10000000000000000000005"), -22);
        c.due("a sign is no number", purse("-5y1"), -20);
        c.due("a sign is no number", purse("5y+1"), -22);
    }

    private static String times(int n, String text) {
        return String.join(",", Collections.nCopies(n, text));
    }

    private static void oneToTen() {
        c.part("A PURSE is a TEXT: 1 to 10 with , between");
        for (int n = 1; n <= 10; n++) {
            OldestCoins x = new OldestCoins();
            c.due(n + " coins", Check.purseOf(x, 3, times(n, "5y1")), n);
            c.due("how many it has", x.of(3, 0), n);
            c.due("a , behind " + n, purse(times(n, "5y1") + ","), n < 10 ? -20 - 4 * n : -59);
        }
        c.due("none", purse(""), -20);
        c.due("none, blanks", purse("  "), -22);
        c.due("11: the , behind the tenth can't stand there", purse(times(11, "5y1")), -59);
        c.due("ten and blanks", purse(times(10, "5y1") + "  "), 10);
        c.due("ten forged ones and blanks", purse(times(10, "5y1f1") + "  "), 10);
        c.due("ten worn ones and blanks", purse(times(10, "5y1w") + "  "), 10);
        c.due("11 with blanks", purse(times(10, "5y1") + "  ,5y1"), -61);
        c.due("20", purse(times(20, "5y1")), -59);
        c.due("11, the second has a fault", purse("5y1,0y1," + times(9, "5y1")), -24);
        OldestCoins x = new OldestCoins();
        c.due("11: none comes", Check.purseOf(x, 0, times(11, "5y1")), -59);
        c.due("11: none comes", x.count(0), 0);
    }

    private static void kindsOfCoins() {
        c.part("perhaps f and a number, or w, or b: one of them");
        c.due("two kinds", purse("5y1wb"), -24);
        c.due("two kinds", purse("5y1w w"), -25);
        c.due("two kinds", purse("5y1bf3"), -24);
        c.due("two kinds", purse("5y1f3w"), -25);
        c.due("two kinds", purse("5y1f3f4"), -25);
        c.due("a number behind w", purse("5y1w3"), -24);
        c.due("a number behind b", purse("5y1b3"), -24);
        c.due("f without a number", purse("5y1f"), -24);
        c.due("f without a number", purse("5y1f,5y1"), -24);
        c.due("f and w", purse("5y1fw"), -24);
        c.due("great letters", purse("5Y1"), -21);
        c.due("great letters", purse("5y1W"), -23);
        c.due("a kind ahead of the year", purse("5w1"), -21);
        c.due("a kind ahead of the worth", purse("w5y1"), -20);
    }

    private static void comesToAHolder() {
        c.part("COINS come to a told HOLDER: how many; numbers as they come");
        OldestCoins x = new OldestCoins();
        for (int holder = 0; holder < 8; holder++) {
            c.due("purse " + holder, Check.purseOf(x, holder, "5y1,6y2w"), 2);
            c.due("the first is " + 2 * holder, x.told(2 * holder, 4), holder);
            c.due("the second is " + (2 * holder + 1), x.told(2 * holder + 1, 0), 6);
        }
        c.due("the next number", x.coin(0, 1, 1, 0), 16);
    }

    private static void purseBadKeepsTheTape() {
        c.part("purse: BAD (THE TAPE stays)");
        OldestCoins x = new OldestCoins();
        Check.typed(x, "5y1");
        c.due("BAD", x.purse(8), BAD);
        c.due("BAD", x.purse(-1), BAD);
        c.due("THE TAPE stays", x.type(Check.word("2"), 1), 4);
        c.due("purse", x.purse(7), 1);
        c.due("year", x.told(0, 1), 12);
        c.due("THE TAPE, which is empty then", x.purse(7), -20);
        Check.typed(x, "5y1;");
        c.due("BAD ahead of a FAULT", x.purse(8), BAD);
        c.due("a FAULT", x.purse(7), -23);
        c.due("THE TAPE, which is empty then", x.purse(7), -20);
        c.due("none came", x.count(0), 1);
    }

    private static void purseFull() {
        c.part("purse: FULL: there would be more than 40 (none comes)");
        for (int n = 1; n <= 10; n++) {
            OldestCoins x = new OldestCoins();
            for (int i = 0; i < 41 - n; i++) {
                x.coin(0, 1, 1, 0);
            }
            c.due("one too many, " + n, Check.purseOf(x, 1, times(n, "5y1")), FULL);
            c.due("none comes", x.count(0), 41 - n);
            c.due("none comes", x.of(1, 0), 0);
            c.due("THE TAPE, which is empty then", x.type(' ', 1), 1);
            c.due("a FAULT ahead of FULL", Check.purseOf(x, 1, times(n, "5y1") + ";"), -20 - 4 * n);
            if (n > 1) {
                c.due("just 40", Check.purseOf(x, 1, times(n - 1, "5y1")), n - 1);
                c.due("just 40", x.count(0), 40);
            }
            c.due("not one more", Check.purseOf(x, 1, "5y1"), FULL);
        }
        OldestCoins full = Towns.full();
        c.due("a FAULT ahead of FULL", full.purse(0), -20);
        c.due("11 coins: a FAULT ahead of FULL", Check.purseOf(full, 0, times(11, "5y1")), -59);
    }

    private static void billsOfAText() {
        c.part("a digit 0 .. 3 (PURSE), > and a digit 4 .. 7, : and a number (SUM)");
        for (int purse = 0; purse < 10; purse++) {
            c.due("purse " + purse, day(purse + ">4:1"), purse < 4 ? 1 : -20);
        }
        for (int shop = 0; shop < 10; shop++) {
            c.due("shop " + shop, day("0>" + shop + ":1"), shop >= 4 && shop <= 7 ? 1 : -22);
        }
        for (int purse = 0; purse < 4; purse++) {
            for (int shop = 4; shop < 8; shop++) {
                OldestCoins x = Towns.of(purse + " 3y1,8y2");
                c.due("day", Check.dayOf(x, purse + ">" + shop + ":3"), 1);
                c.due("it is run", x.run(1), 1);
                c.due("by that purse, in that shop", x.told(0, 4), shop);
                c.due("for that sum", x.told(1, 4), purse);
            }
        }
        c.due("a digit, not a number", day("00>4:1"), -21);
        c.due("a digit, not a number", day("0>04:1"), -22);
        c.due("a digit, not a number", day("0>44:1"), -23);
        c.due("a digit, not a number", day("10>4:1"), -21);
    }

    private static void numbersOfBills() {
        c.part("a SUM (1 .. 999); of a number that may not be its first byte");
        c.due("0", day("0>4:0"), -24);
        c.due("000", day("0>4:000"), -24);
        c.due("1", day("0>4:1"), 1);
        c.due("999", day("0>4:999"), 1);
        c.due("1000", day("0>4:1000"), -24);
        c.due("1000, a blank ahead", day("0>4: 1000"), -25);
        c.due("4294967297, which is 1 in 32 bits", day("0>4:4294967297"), -24);
        c.due("a second one of 0", day("0>4:1,0>4:0"), -30);
        c.due("ahead of what can't stand behind it", day("0>4:1000x"), -24);
        OldestCoins x = Towns.of("0 99y1");
        for (int i = 0; i < 10; i++) {
            x.coin(0, 90, 2, 0);
        }
        Check.dayOf(x, "0>4:999");
        c.due("999 is met by 99 and ten times 90", x.run(1), 1);
        c.due("all go", x.of(4, 1), 999);
    }

    private static void oneTo24() {
        c.part("A DAY is a TEXT: 1 to 24 with , between");
        for (int n = 1; n <= 24; n++) {
            OldestCoins x = new OldestCoins();
            c.due(n + " bills", Check.dayOf(x, times(n, "0>4:1")), n);
            c.due("how many it has", x.count(2), n);
            c.due("a , behind " + n, day(times(n, "0>4:1") + ","), n < 24 ? -20 - 6 * n : -163);
        }
        c.due("24 and blanks", day(times(24, "0>4:1") + "  "), 24);
        c.due("24, blanks and a ,", day(times(24, "0>4:1") + "  ,"), -165);
        c.due("25: the , behind the last can't stand there", day(times(25, "0>4:1")), -163);
        c.due("none", day(""), -20);
        c.due("none, a blank", day(" "), -21);
        c.due("none, a ,", day(","), -20);
    }

    private static void inPlaceOfTheDay() {
        c.part("in place of THE DAY; A FAULT (THE DAY stays)");
        OldestCoins x = Towns.of("0 1y1,1y2,1y3", "1 1y1,1y2");
        c.due("day", Check.dayOf(x, "0>4:1,0>5:1"), 2);
        c.due("another", Check.dayOf(x, "1>6:1"), 1);
        c.due("it is alone", x.run(1), 1);
        c.row("holders", Check.holders(x), 0, 0, 0, 6, 1);
        c.due("a FAULT at its end", Check.dayOf(x, "0>4:1,0>5:1,0>7:1;"), -37);
        c.due("THE DAY stays", x.count(2), 1);
        c.due("THE DAY stays", x.run(1), 1);
        c.row("holders", Check.holders(x), 0, 0, 0, 6, 6);
        c.due("THE TAPE, which is empty then", x.type(' ', 1), 1);
        c.due("a FAULT at the end", x.day(), -21);
        c.due("THE DAY stays", x.count(2), 1);
        c.due("a purse is no day", Check.dayOf(x, "5y1"), -20);
        c.due("a purse is no day", Check.dayOf(x, "3y1"), -21);
        c.due("a day is no purse", Check.purseOf(x, 0, "3>4:1"), -21);
        c.due("THE DAY stays", x.count(2), 1);
    }

    private static void blanks() {
        c.part("blanks do not count, but end a number");
        coin("  12  y  34  f  56  ", 12, 34, 56, 1);
        coin(" 5 y 6 w ", 5, 6, 6, 2);
        coin(" 5 y 6 b ", 5, 6, 6, 3);
        c.due("two coins", purse(" 5y1 , 6y2 "), 2);
        c.due("a worth ends", purse("1 2y3"), -22);
        c.due("a worth ends", purse("1   2y3"), -24);
        c.due("a year ends", purse("1y2 3"), -24);
        c.due("a stamp ends", purse("1y2f3 4"), -26);
        c.due("a worth that may not be, behind blanks", purse("   0y1"), -23);
        c.due("100 with a blank in it: 10 ends", purse("10 0y1"), -23);
        c.due("one bill", day("  0  >  4  :  12  "), 1);
        c.due("two bills", day(" 0 > 4 : 1 , 1 > 5 : 2 "), 2);
        c.due("a sum ends", day("0>4:1 2"), -26);
        c.due("a blank behind a purse's digit", day("0 0>4:1"), -22);
        c.due("a blank behind a shop's digit", day("0>4 4:1"), -24);
        OldestCoins x = Towns.of("0 9y1,9y2");
        c.due("a sum behind blanks", Check.dayOf(x, "0>4:   12"), 1);
        x.run(1);
        c.due("12 takes both", x.of(4, 0), 2);
        c.due("blanks alone", day("   "), -23);
    }

    private static void placesOfFaults() {
        c.part("FAULTS: -20 less the place of the first byte that can't stand there (purse)");
        Object[][] faults = {{"y", 0}, {",", 0}, {"f1", 0}, {"5f1", 1}, {"5,5y1", 1}, {"5yw", 2}, {"5y,", 2}, {"5y1y1", 3},
            {"5y1:", 3}, {"5y1>", 3}, {"5y1.", 3}, {"5y1f1.", 5}, {"5y1w.", 4}, {"5y1b.", 4}, {"5y1,y", 4}, {"5y1,,", 4},
            {"5y1 ,, 5y1", 5}, {"5y1,5", 5}, {"5y1,5y", 6}, {"5y1,5y1x", 7}, {"~", 0}, {" ~", 1}, {"5 ~", 2}, {"5y1;0y1", 3}};
        for (Object[] f : faults) {
            c.due("'" + f[0] + "'", purse((String) f[0]), -20 - (Integer) f[1]);
        }
    }

    private static void placesOfDayFaults() {
        c.part("FAULTS: -20 less the place of the first byte that can't stand there (day)");
        Object[][] faults = {{">", 0}, {":", 0}, {"a", 0}, {"0:4>1", 1}, {"0>>4:1", 2}, {"0>:1", 2}, {"0>4>1", 3}, {"0>4::1", 4},
            {"0>4:,", 4}, {"0>4:1>", 5}, {"0>4:1:", 5}, {"0>4:1,,", 6}, {"0>4:1,>", 6}, {"0>4:1,0", 7}, {"0>4:1,0>", 8},
            {"0>4:1,0>4", 9}, {"0>4:1,0>4:", 10}, {"0>4:1,0>4:x", 10}, {"0>4:1,4>4:1", 6}, {"0>4:1,0>3:1", 8}, {"0 , ", 2}};
        for (Object[] f : faults) {
            c.due("'" + f[0] + "'", day((String) f[0]), -20 - (Integer) f[1]);
        }
    }

    private static void theEnd() {
        c.part("(the end: how many bytes there are)");
        String purse = "12y34f56";
        for (int n = 0; n < purse.length(); n++) {
            boolean isWhole = n == 4 || n == 5 || n == 7;
            String text = purse.substring(0, n);
            c.due("'" + text + "'", purse(text), isWhole ? 1 : -20 - n);
            c.due("'" + text + "  '", purse(text + "  "), isWhole ? 1 : -22 - n);
        }
        String day = "0>4:12";
        for (int n = 0; n < day.length(); n++) {
            boolean isWhole = n == 5;
            String text = day.substring(0, n);
            c.due("'" + text + "'", day(text), isWhole ? 1 : -20 - n);
            c.due("'" + text + "  '", day(text + "  "), isWhole ? 1 : -22 - n);
        }
    }

    /** Which of all signs may stand behind a beginning; the others are the fault. */
    private static void signs(boolean isDay, String begun, String may) {
        for (char sign = 33; sign <= 126; sign++) {
            String text = begun + sign;
            int got = isDay ? day(text) : purse(text);
            boolean isFaultHere = got == -20 - begun.length();
            c.due("'" + text + "', a fault at its last sign", isFaultHere ? 1 : 0, may.indexOf(sign) < 0 ? 1 : 0);
        }
    }

    private static void eachSign() {
        c.part("each sign that can stand there (purse)");
        String some = "123456789";
        signs(false, "", some);
        signs(false, "5", "0" + some + "y");
        signs(false, "5 ", "y");
        signs(false, "5y", "0" + some);
        signs(false, "5y1", "0" + some + "fwb,");
        signs(false, "5y1 ", "fwb,");
        signs(false, "5y1f", "0" + some);
        signs(false, "5y1f1", "0" + some + ",");
        signs(false, "5y1f1 ", ",");
        signs(false, "5y1w", ",");
        signs(false, "5y1b", ",");
        signs(false, "5y1,", some);
    }

    private static void eachSignOfADay() {
        c.part("each sign that can stand there (day)");
        String some = "123456789";
        signs(true, "", "0123");
        signs(true, "0", ">");
        signs(true, "0>", "4567");
        signs(true, "0>4", ":");
        signs(true, "0>4:", some);
        signs(true, "0>4:1", "0" + some + ",");
        signs(true, "0>4:1 ", ",");
        signs(true, "0>4:1,", "0123");
    }

    private static void longTexts() {
        c.part("texts of all 160 bytes");
        c.due("a purse", purse(" ".repeat(156) + "12y3"), 1);
        c.due("a purse that lacks its end", purse(" ".repeat(158) + "5y"), -180);
        c.due("the last byte can't stand there", purse(" ".repeat(156) + "5y1;"), -179);
        c.due("a day", day("0>4:1" + " ".repeat(155)), 1);
        c.due("the last byte can't stand there", day("0>4:1" + " ".repeat(154) + "1"), -179);
        c.due("a number of 160 digits", purse("1".repeat(160)), -20);
        c.due("a year of 158 digits", purse("1y" + "9".repeat(158)), -22);
        OldestCoins x = new OldestCoins();
        Check.typed(x, "5y1" + " ".repeat(157));
        c.due("FULL", x.type(' ', 1), FULL);
        c.due("a purse", x.purse(0), 1);
        Check.typed(x, "6y22");
        c.due("what was on THE TAPE is gone", x.purse(0), 1);
        c.due("year", x.told(1, 1), 22);
        c.due("a shorter one", Check.purseOf(x, 0, "7y3"), 1);
        c.due("year", x.told(2, 1), 3);
    }
}
