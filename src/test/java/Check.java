/** Counts answers that are not as due, and ends the test. */
final class Check {
    private int wrong;
    private int made;
    private String part = "";

    void part(String name) {
        part = name;
    }

    void due(String call, long got, long want) {
        made++;
        if (got != want) {
            wrong++;
            System.out.println(part + ": " + call + " answered " + got + ", due is " + want);
        }
    }

    /** Calls of one method with growing last argument 0, 1, .. are told as one row. */
    void row(String call, int[] got, int... want) {
        due(call + " (how many)", got.length, want.length);
        for (int i = 0; i < Math.min(got.length, want.length); i++) {
            due(call + " [" + i + "]", got[i], want[i]);
        }
    }

    void end() {
        System.out.println(made + " answers, " + wrong + " not as due");
        if (wrong != 0) {
            System.exit(1);
        }
    }

    static int typed(OldestCoins x, String text) {
        int answer = 0;
        for (int at = 0; at < text.length(); at += 8) {
            String piece = text.substring(at, Math.min(at + 8, text.length()));
            answer = x.type(word(piece), piece.length());
        }
        return answer;
    }

    static long word(String piece) {
        long w = 0;
        for (int i = 0; i < piece.length(); i++) {
            w = w << 8 | piece.charAt(i);
        }
        return w;
    }

    static int purseOf(OldestCoins x, int holder, String text) {
        typed(x, text);
        return x.purse(holder);
    }

    static int dayOf(OldestCoins x, String text) {
        typed(x, text);
        return x.day();
    }

    static int[] holders(OldestCoins x) {
        int[] all = new int[x.count(0)];
        for (int i = 0; i < all.length; i++) {
            all[i] = x.told(i, 4);
        }
        return all;
    }
}
