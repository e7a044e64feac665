/**
 * The oldest coin first: purses and tills as rows of coins, bills paid by law,
 * errands, days, texts, images and sheets, as ../shared/DOC.md promises.
 */
public final class OldestCoins {
    public static final int BAD = -1, NOT = -2, FULL = -3, NONE = -4, NULL = -11, CAST = -12, INDEX = -13, SIZE = -14;

    private static final int MOST_COINS = 40;
    private static final int MOST_WORTH = 99;
    private static final int MOST_YEAR = 99;
    private static final int FORGED = 1;
    private static final int WORN = 2;
    private static final int BENT = 3;
    private static final int HOLDERS = 8;
    private static final int PURSES = 4;
    private static final int LAST_LAW = 3;
    private static final int FIRST_LAW_BY_WORTH = 2;
    private static final int MOST_SUM = 999;
    private static final int MOST_FIRST_SUM = 99;
    private static final int MOST_ERRANDS = 6;
    private static final int MOST_BILLS = 24;
    private static final int MOST_RUNS = 50;
    private static final int MOST_SEEN = 4;
    private static final int MOST_CHANGE = 99;
    private static final int TAPE_BYTES = 160;
    private static final int TEXT_COINS = 10;
    private static final int FAULT = -20;
    private static final int BELOW = 100000;
    private static final int SHEETS = 4;
    private static final int LANES = 3;
    private static final int MOST_ITEMS = 24;
    private static final int NOTHING = -1;
    private static final int NO_COIN = -1;
    // Rows by rank have a place for each bit of a long: no bit's place is ever outside them.
    private static final int RANKS = 64;

    private final Town town = new Town();
    private final Town kept = new Town();
    private boolean hasImage;
    private final Ranks ranks = new Ranks();
    private boolean ranksAreOld = true;
    private final Ranks forgedRanks = new Ranks();
    private final Board board = new Board();
    private final Board trial = new Board();
    private final Tour tour = new Tour();
    private final Guess guess = new Guess();
    private final Tape tape = new Tape();
    private final Coins textCoins = new Coins(TEXT_COINS);
    private final Bills textDay = new Bills(MOST_BILLS);
    private final Sheets sheets = new Sheets();

    public OldestCoins() {
    }

    // ---- 1 coins, holders

    public int coin(int holder, int worth, int year, int kind) {
        if (!isHolder(holder) || !isWithin(worth, 1, MOST_WORTH) || !isYear(year) || !isWithin(kind, 0, BENT)) {
            return BAD;
        }
        if (town.coins.size >= MOST_COINS) {
            return FULL;
        }
        ranksAreOld = true;
        town.coins.add(holder, worth, year, year, kind);
        return town.coins.size - 1;
    }

    public int stamp(int coin, int year) {
        if (!isCoin(coin) || !isYear(year)) {
            return BAD;
        }
        int before = town.coins.stamp[coin];
        town.coins.stamp[coin] = year;
        ranksAreOld = true;
        return before;
    }

    public int told(int coin, int what) {
        if (!isCoin(coin)) {
            return BAD;
        }
        switch (what) {
            case 0:
                return town.coins.worth[coin];
            case 1:
                return town.coins.year[coin];
            case 2:
                return town.coins.stamp[coin];
            case 3:
                return town.coins.kind[coin];
            case 4:
                return town.coins.holder[coin];
            default:
                return BAD;
        }
    }

    public int give(int coin, int holder) {
        if (!isCoin(coin) || !isHolder(holder)) {
            return BAD;
        }
        int before = town.coins.holder[coin];
        town.coins.holder[coin] = holder;
        return before;
    }

    public int older(int a, int b) {
        if (!isCoin(a) || !isCoin(b) || a == b) {
            return BAD;
        }
        return town.coins.oldness(a) < town.coins.oldness(b) ? a : b;
    }

    public int rule(int v) {
        if (!isWithin(v, 0, LAST_LAW)) {
            return BAD;
        }
        int before = town.law;
        town.law = v;
        ranksAreOld = true;
        return before;
    }

    public int of(int holder, int what) {
        if (!isHolder(holder) || !isWithin(what, 0, 3)) {
            return BAD;
        }
        layOut();
        long had = board.had[holder];
        if (what == 0) {
            return Long.bitCount(had);
        }
        if (what == 1) {
            return ranks.worthOf(had);
        }
        if (had == 0) {
            return NONE;
        }
        return ranks.coinAt[what == 2 ? ranks.nextPaid(had) : ranks.nextBack(had)];
    }

    public int type(long w, int n) {
        if (!isWithin(n, 1, 8) || !Tape.mayHold(w, n)) {
            return BAD;
        }
        if (tape.size + n > TAPE_BYTES) {
            return FULL;
        }
        tape.append(w, n);
        return tape.size;
    }

    public int purse(int holder) {
        if (!isHolder(holder)) {
            return BAD;
        }
        tape.readCoins(textCoins, holder);
        int fault = tape.fault;
        tape.clear();
        if (fault >= 0) {
            return FAULT - fault;
        }
        if (town.coins.size + textCoins.size > MOST_COINS) {
            return FULL;
        }
        ranksAreOld = true;
        town.coins.addAll(textCoins);
        return textCoins.size;
    }

    public int day() {
        tape.readBills(textDay);
        int fault = tape.fault;
        tape.clear();
        if (fault >= 0) {
            return FAULT - fault;
        }
        town.day.copyFrom(textDay);
        return town.day.size;
    }

    public int count(int what) {
        switch (what) {
            case 0:
                return town.coins.size;
            case 1:
                return town.coins.worthOfAll();
            case 2:
                return town.day.size;
            case 3:
                return town.errands.size;
            default:
                return BAD;
        }
    }

    // ---- 2 bills

    public int bill(int purse, int shop, int sum) {
        if (!isBill(purse, shop, sum)) {
            return BAD;
        }
        layOut();
        if (!board.meets(ranks, purse, shop, sum)) {
            return NOT;
        }
        takeOver();
        return board.due - board.lacking;
    }

    public int would(int purse, int shop, int sum, int what) {
        if (!isBill(purse, shop, sum) || !isWithin(what, 0, 3)) {
            return BAD;
        }
        layOut();
        if (!board.meets(ranks, purse, shop, sum)) {
            return NOT;
        }
        switch (what) {
            case 0:
                return Long.bitCount(board.paid);
            case 1:
                return sum + board.due;
            case 2:
                return Long.bitCount(board.given);
            default:
                return board.lacking;
        }
    }

    public int even(int purse, int i) {
        if (!isPurse(purse) || i < -1) {
            return BAD;
        }
        layOut();
        long left = board.had[purse];
        int sum = 0;
        int found = 0;
        for (int turn = 0; turn < MOST_COINS && left != 0; turn++) {
            int rank = ranks.nextPaid(left);
            left ^= 1L << rank;
            sum += ranks.worthAt[rank];
            if (sum > MOST_SUM) {
                break;
            }
            if (found == i) {
                return sum;
            }
            found++;
        }
        return i == -1 ? found : NONE;
    }

    public int least(int purse, int shop, int other, int sum) {
        if (!isBill(purse, other, sum) || !isShop(shop)) {
            return BAD;
        }
        layOut();
        trial.copyFrom(board);
        if (trial.meetsEvenly(ranks, purse, other, sum)) {
            return 0;
        }
        for (int first = 1; first <= MOST_FIRST_SUM; first++) {
            trial.copyFrom(board);
            if (trial.meets(ranks, purse, shop, first) && trial.meetsEvenly(ranks, purse, other, sum)) {
                return first;
            }
        }
        return NONE;
    }

    public int errand(int shop, int sum) {
        if (!isShop(shop) || !isSum(sum)) {
            return BAD;
        }
        if (town.errands.size >= MOST_ERRANDS) {
            return FULL;
        }
        town.errands.add(0, shop, sum);
        return town.errands.size - 1;
    }

    public int home() {
        int before = town.errands.size;
        town.errands.size = 0;
        return before;
    }

    public int order(int purse, int i) {
        if (!isPurse(purse) || !isWithin(i, -1, MOST_ERRANDS - 1)) {
            return BAD;
        }
        if (town.errands.size == 0 || i >= town.errands.size) {
            return NONE;
        }
        layOut();
        tour.begin(purse, 0, 0, -1, town.errands.size);
        seek(0, 0, 0);
        return i == -1 ? tour.best : tour.found[i];
    }

    public int send(int purse, int coin, int shop, int i) {
        if (!isPurse(purse) || !isCoin(coin) || !isShop(shop) || !isWithin(i, 0, MOST_ERRANDS - 1)) {
            return BAD;
        }
        if (i >= town.errands.size) {
            return NONE;
        }
        layOut();
        tour.begin(purse, 1L << ranks.rankOf[coin], shop, 0, 1);
        seek(0, 0, 0);
        return tour.best == 0 ? NONE : tour.found[i];
    }

    public int lent(int first, int shop, int sum, int second, int shop2, int sum2) {
        if (!isBill(first, shop, sum) || !isBill(second, shop2, sum2) || first == second) {
            return BAD;
        }
        layOut();
        int chosen = NONE;
        int most = 0;
        for (int coin = NO_COIN; coin < town.coins.size; coin++) {
            if (coin != NO_COIN && town.coins.holder[coin] != first) {
                continue;
            }
            trial.copyFrom(board);
            if (coin != NO_COIN) {
                trial.move(ranks.rankOf[coin], first, second);
            }
            int evens = trial.meetsEvenly(ranks, first, shop, sum) ? 1 : 0;
            evens += trial.meetsEvenly(ranks, second, shop2, sum2) ? 1 : 0;
            if (evens > most) {
                most = evens;
                chosen = coin == NO_COIN ? NONE : coin;
            }
        }
        return chosen;
    }

    // ---- 3 days

    public int run(int n) {
        if (!isWithin(n, 1, MOST_RUNS)) {
            return BAD;
        }
        layOut();
        int done = runDay(board, ranks, n);
        takeOver();
        return done;
    }

    public int where(int coin, int n) {
        if (!isCoin(coin) || !isWithin(n, 1, MOST_RUNS)) {
            return BAD;
        }
        layOut();
        runDay(board, ranks, n);
        return board.holderAt(ranks.rankOf[coin]);
    }

    public int gain(int purse, int coin, int year) {
        if (!isPurse(purse) || !isCoin(coin) || !isYear(year)) {
            return BAD - BELOW;
        }
        layOut();
        layOutForged(coin, year);
        runDay(board, ranks, 1);
        runDay(trial, forgedRanks, 1);
        return forgedRanks.worthOf(trial.had[purse]) - ranks.worthOf(board.had[purse]);
    }

    public int shows(int coin, int year) {
        if (!isCoin(coin) || !isYear(year)) {
            return BAD;
        }
        layOut();
        layOutForged(coin, year);
        for (int i = 0; i < town.day.size; i++) {
            long asItIs = coinsPaid(board, ranks, i);
            long forged = coinsPaid(trial, forgedRanks, i);
            if (asItIs != forged) {
                return i;
            }
            // A bill that is run takes a coin at least: here both days have ended.
            if (asItIs == 0) {
                return NONE;
            }
        }
        return NONE;
    }

    public int image() {
        kept.copyFrom(town);
        hasImage = true;
        return 1;
    }

    public int restore() {
        if (!hasImage) {
            return NONE;
        }
        town.copyFrom(kept);
        ranksAreOld = true;
        return 1;
    }

    // ---- 4 sheets

    public int seen(int sheet, int lane, int from, int n, int sum, int paid, int change, int k) {
        if (!isSheet(sheet) || !isLane(lane) || !isWithin(n, 1, MOST_SEEN) || !isSum(sum)
                || !isWithin(paid, 1, MOST_SEEN) || !isWithin(change, 0, MOST_CHANGE) || !isWithin(k, -1, n - 1)) {
            return BAD;
        }
        int refused = sheets.refusal(sheet, lane, from, n);
        if (refused != 0) {
            return refused;
        }
        for (int i = 0; i < n; i++) {
            long worth = sheets.read(sheet, from + i);
            if (worth < 1 || worth > MOST_WORTH) {
                return NOT;
            }
            guess.worth[i] = (int) worth;
        }
        int found = guess.countOrders(n, sum, paid, change);
        if (found == 0) {
            return NONE;
        }
        return k == -1 ? found : guess.first[k];
    }

    public int sheet(int sheet, int lane, int n) {
        if (!isSheet(sheet) || !isLane(lane) || n > MOST_ITEMS) {
            return BAD;
        }
        if (n < 0) {
            return SIZE;
        }
        sheets.lay(sheet, lane, n);
        return n;
    }

    public int drop(int sheet) {
        if (!isSheet(sheet)) {
            return BAD;
        }
        if (sheets.lane[sheet] == NOTHING) {
            return NULL;
        }
        sheets.lane[sheet] = NOTHING;
        return sheets.size[sheet];
    }

    public int item(int sheet, int lane, int i, long v) {
        if (!isSheet(sheet) || !isLane(lane)) {
            return BAD;
        }
        int refused = sheets.refusal(sheet, lane, i, 1);
        if (refused != 0) {
            return refused;
        }
        sheets.write(sheet, i, v);
        return 1;
    }

    public int film(int holder, int sheet, int lane, int from) {
        if (!isHolder(holder) || !isSheet(sheet) || !isLane(lane)) {
            return BAD;
        }
        layOut();
        long left = board.had[holder];
        int n = Long.bitCount(left);
        int refused = sheets.refusal(sheet, lane, from, n);
        if (refused != 0) {
            return refused;
        }
        for (int i = 0; i < n; i++) {
            int rank = ranks.nextPaid(left);
            left ^= 1L << rank;
            sheets.write(sheet, from + i, ranks.coinAt[rank]);
        }
        return n;
    }

    // ---- what the calls share

    private static boolean isWithin(int v, int low, int high) {
        return v >= low && v <= high;
    }

    private boolean isCoin(int v) {
        return isWithin(v, 0, town.coins.size - 1);
    }

    private static boolean isYear(int v) {
        return isWithin(v, 0, MOST_YEAR);
    }

    private static boolean isHolder(int v) {
        return isWithin(v, 0, HOLDERS - 1);
    }

    private static boolean isPurse(int v) {
        return isWithin(v, 0, PURSES - 1);
    }

    private static boolean isShop(int v) {
        return isWithin(v, PURSES, HOLDERS - 1);
    }

    private static boolean isSum(int v) {
        return isWithin(v, 1, MOST_SUM);
    }

    private static boolean isBill(int purse, int shop, int sum) {
        return isPurse(purse) && isShop(shop) && isSum(sum);
    }

    private static boolean isSheet(int v) {
        return isWithin(v, 0, SHEETS - 1);
    }

    private static boolean isLane(int v) {
        return isWithin(v, 0, LANES - 1);
    }

    /** Puts the coins on the board as they are, by ranks that are no older than coins and law. */
    private void layOut() {
        if (ranksAreOld) {
            ranks.build(town, NO_COIN, 0);
            ranksAreOld = false;
        }
        board.layOut(town.coins, ranks);
    }

    private void layOutForged(int coin, int year) {
        forgedRanks.build(town, coin, year);
        trial.layOut(town.coins, forgedRanks);
    }

    /** What has gone on the board is so in the town. */
    private void takeOver() {
        for (int rank = 0; rank < ranks.size; rank++) {
            town.coins.holder[ranks.coinAt[rank]] = board.holderAt(rank);
        }
    }

    private int runDay(Board on, Ranks by, int times) {
        int done = 0;
        for (int time = 0; time < times; time++) {
            for (int i = 0; i < town.day.size; i++) {
                if (!runBill(on, by, i)) {
                    return done;
                }
                done++;
            }
        }
        return done;
    }

    private boolean runBill(Board on, Ranks by, int i) {
        return on.meets(by, town.day.purse[i], town.day.shop[i], town.day.sum[i]);
    }

    /** The coins (a bit for each number) that go for a bill of the day, none where it is not met. */
    private long coinsPaid(Board on, Ranks by, int i) {
        return runBill(on, by, i) ? by.numbersOf(on.paid) : 0;
    }

    /** Goes on with the tour by each errand that is not yet used; the board is as before at the end. */
    private void seek(int depth, int used, int evens) {
        int n = town.errands.size;
        if (depth >= n || depth >= MOST_ERRANDS) {
            tour.judge(board, n, evens);
            return;
        }
        if (!tour.mayGetBetter(evens + n - depth)) {
            return;
        }
        for (int next = 0; next < n && tour.best < tour.enough; next++) {
            if ((used >> next & 1) != 0) {
                continue;
            }
            int shop = town.errands.shop[next];
            long inPurse = board.had[tour.purse];
            long inTill = board.had[shop];
            boolean comesOutEven = board.meetsEvenly(ranks, tour.purse, shop, town.errands.sum[next]);
            tour.path[depth] = next;
            seek(depth + 1, used | 1 << next, comesOutEven ? evens + 1 : evens);
            board.had[tour.purse] = inPurse;
            board.had[shop] = inTill;
        }
    }

    /** Rows of coins, a place for each number. */
    private static final class Coins {
        int size;
        final int[] holder;
        final int[] worth;
        final int[] year;
        final int[] stamp;
        final int[] kind;

        Coins(int most) {
            holder = new int[most];
            worth = new int[most];
            year = new int[most];
            stamp = new int[most];
            kind = new int[most];
        }

        void add(int itsHolder, int itsWorth, int itsYear, int itsStamp, int itsKind) {
            if (size >= holder.length) {
                return;
            }
            holder[size] = itsHolder;
            worth[size] = itsWorth;
            year[size] = itsYear;
            stamp[size] = itsStamp;
            kind[size] = itsKind;
            size++;
        }

        void addAll(Coins more) {
            for (int i = 0; i < more.size; i++) {
                add(more.holder[i], more.worth[i], more.year[i], more.stamp[i], more.kind[i]);
            }
        }

        void copyFrom(Coins other) {
            size = 0;
            addAll(other);
        }

        int worthOfAll() {
            int sum = 0;
            for (int i = 0; i < size; i++) {
                sum += worth[i];
            }
            return sum;
        }

        int oldness(int number) {
            return oldnessAs(number, kind[number], stamp[number]);
        }

        /** The less, the older; no two coins have the same, as the number counts among those of one age. */
        int oldnessAs(int number, int asKind, int asStamp) {
            return ageAs(year[number], asKind, asStamp) * RANKS + number;
        }

        private static int ageAs(int itsYear, int asKind, int asStamp) {
            switch (asKind) {
                case FORGED:
                    return asStamp + 1;
                case WORN:
                    return 0;
                case BENT:
                    return MOST_YEAR + 2;
                default:
                    return itsYear + 1;
            }
        }
    }

    /** Rows of bills; errands are bills whose purse is not told yet. */
    private static final class Bills {
        int size;
        final int[] purse;
        final int[] shop;
        final int[] sum;

        Bills(int most) {
            purse = new int[most];
            shop = new int[most];
            sum = new int[most];
        }

        void add(int itsPurse, int itsShop, int itsSum) {
            if (size >= purse.length) {
                return;
            }
            purse[size] = itsPurse;
            shop[size] = itsShop;
            sum[size] = itsSum;
            size++;
        }

        void copyFrom(Bills other) {
            size = 0;
            for (int i = 0; i < other.size; i++) {
                add(other.purse[i], other.shop[i], other.sum[i]);
            }
        }
    }

    /** All that an image keeps. */
    private static final class Town {
        int law;
        final Coins coins = new Coins(MOST_COINS);
        final Bills day = new Bills(MOST_BILLS);
        final Bills errands = new Bills(MOST_ERRANDS);

        void copyFrom(Town other) {
            law = other.law;
            coins.copyFrom(other.coins);
            day.copyFrom(other.day);
            errands.copyFrom(other.errands);
        }
    }

    /**
     * The coins in the order in which the law has them paid: rank 0 goes first. Sets of coins
     * are bits by rank, so that the lowest bit of a purse is the next coin to be paid.
     */
    private static final class Ranks {
        int size;
        final int[] coinAt = new int[RANKS];
        final int[] worthAt = new int[RANKS];
        final int[] rankOf = new int[MOST_COINS];
        private final int[] keyAt = new int[RANKS];
        // At a rank: it and those below it that a till gives ahead of it, though they are paid ahead of it too.
        private final long[] alike = new long[RANKS];

        /** Ranks by the town's law, as if one coin were forged with that stamp (NO_COIN: as all is). */
        void build(Town town, int forged, int stamp) {
            size = 0;
            for (int number = 0; number < town.coins.size; number++) {
                int oldness = number == forged
                        ? town.coins.oldnessAs(number, FORGED, stamp) : town.coins.oldness(number);
                insert(number, keyBy(town.law, town.coins.worth[number], oldness));
            }
            for (int rank = 0; rank < size; rank++) {
                int number = coinAt[rank];
                rankOf[number] = rank;
                worthAt[rank] = town.coins.worth[number];
                boolean isLike = town.law >= FIRST_LAW_BY_WORTH && rank > 0 && worthAt[rank - 1] == worthAt[rank];
                alike[rank] = 1L << rank | (isLike ? alike[rank - 1] : 0);
            }
        }

        private static int keyBy(int law, int worth, int oldness) {
            int aboveAllOldness = (MOST_YEAR + 3) * RANKS;
            switch (law) {
                case 0:
                    return oldness;
                case 1:
                    return -oldness;
                case 2:
                    return worth * aboveAllOldness + oldness;
                default:
                    return -worth * aboveAllOldness + oldness;
            }
        }

        private void insert(int number, int key) {
            int rank = size;
            for (; rank > 0 && keyAt[rank - 1] > key; rank--) {
                keyAt[rank] = keyAt[rank - 1];
                coinAt[rank] = coinAt[rank - 1];
            }
            keyAt[rank] = key;
            coinAt[rank] = number;
            size++;
        }

        /** Of a set that is not empty. */
        int nextPaid(long set) {
            return Long.numberOfTrailingZeros(set) & (RANKS - 1);
        }

        /** Of a set that is not empty: the last to be paid or, where worth counts, the oldest of that worth. */
        int nextBack(long set) {
            int last = (RANKS - 1 - Long.numberOfLeadingZeros(set)) & (RANKS - 1);
            return Long.numberOfTrailingZeros(set & alike[last]) & (RANKS - 1);
        }

        int worthOf(long set) {
            int sum = 0;
            for (int rank = 0; rank < size; rank++) {
                if ((set >> rank & 1) != 0) {
                    sum += worthAt[rank];
                }
            }
            return sum;
        }

        /** A set by rank as bits by the coins' numbers: such sets can be compared between two laws. */
        long numbersOf(long set) {
            long numbers = 0;
            for (int rank = 0; rank < size; rank++) {
                if ((set >> rank & 1) != 0) {
                    numbers |= 1L << coinAt[rank];
                }
            }
            return numbers;
        }
    }

    /** Who has which coins, as sets by rank; and what went for the last bill. */
    private static final class Board {
        final long[] had = new long[HOLDERS];
        long paid;
        long given;
        int due;
        int lacking;

        void layOut(Coins coins, Ranks ranks) {
            for (int holder = 0; holder < HOLDERS; holder++) {
                had[holder] = 0;
            }
            for (int number = 0; number < coins.size; number++) {
                had[coins.holder[number]] |= 1L << ranks.rankOf[number];
            }
        }

        void copyFrom(Board other) {
            for (int holder = 0; holder < HOLDERS; holder++) {
                had[holder] = other.had[holder];
            }
        }

        void move(int rank, int from, int to) {
            had[from] &= ~(1L << rank);
            had[to] |= 1L << rank;
        }

        int holderAt(int rank) {
            int holder = 0;
            while (holder < HOLDERS - 1 && (had[holder] >> rank & 1) == 0) {
                holder++;
            }
            return holder;
        }

        /** Pays a bill; false if it is not met: then nothing goes. */
        boolean meets(Ranks ranks, int purse, int shop, int sum) {
            int worth = takeOut(ranks, had[purse], sum);
            if (worth < sum) {
                return false;
            }
            due = worth - sum;
            giveBack(ranks, had[shop]);
            had[purse] = had[purse] & ~paid | given;
            had[shop] = had[shop] & ~given | paid;
            return true;
        }

        boolean meetsEvenly(Ranks ranks, int purse, int shop, int sum) {
            return meets(ranks, purse, shop, sum) && due == 0;
        }

        private int takeOut(Ranks ranks, long purse, int sum) {
            long left = purse;
            int worth = 0;
            for (int turn = 0; turn < MOST_COINS && left != 0 && worth < sum; turn++) {
                int rank = ranks.nextPaid(left);
                left ^= 1L << rank;
                worth += ranks.worthAt[rank];
            }
            paid = purse & ~left;
            return worth;
        }

        private void giveBack(Ranks ranks, long till) {
            long left = till;
            given = 0;
            lacking = due;
            for (int turn = 0; turn < MOST_COINS && left != 0 && lacking > 0; turn++) {
                int rank = ranks.nextBack(left);
                left ^= 1L << rank;
                if (ranks.worthAt[rank] <= lacking) {
                    lacking -= ranks.worthAt[rank];
                    given |= 1L << rank;
                }
            }
        }
    }

    /** A search through the orders of all errands, first rows first: for most even ones, or for a coin in a till. */
    private static final class Tour {
        int purse;
        int best;
        int enough;
        final int[] path = new int[MOST_ERRANDS];
        final int[] found = new int[MOST_ERRANDS];
        private long wanted;
        private int till;

        /** With a wanted coin (a bit by rank) an order is worth 1 if it is in the till, else as many as are even. */
        void begin(int itsPurse, long itsWanted, int itsTill, int toBeat, int itsEnough) {
            purse = itsPurse;
            wanted = itsWanted;
            till = itsTill;
            best = toBeat;
            enough = itsEnough;
        }

        boolean mayGetBetter(int mostEvens) {
            return wanted != 0 || mostEvens > best;
        }

        void judge(Board board, int n, int evens) {
            int got = evens;
            if (wanted != 0) {
                got = (board.had[till] & wanted) != 0 ? 1 : 0;
            }
            if (got > best) {
                best = got;
                for (int i = 0; i < n; i++) {
                    found[i] = path[i];
                }
            }
        }
    }

    /** A search through the orders of coins of told worths for those that fit what was seen. */
    private static final class Guess {
        final int[] worth = new int[MOST_SEEN];
        final int[] first = new int[MOST_SEEN];
        private int found;
        private final int[] path = new int[MOST_SEEN];
        private int size;
        private int sum;
        private int paid;
        private int change;

        int countOrders(int itsSize, int itsSum, int itsPaid, int itsChange) {
            size = itsSize;
            sum = itsSum;
            paid = itsPaid;
            change = itsChange;
            found = 0;
            arrange(0, 0);
            return found;
        }

        private void arrange(int depth, int used) {
            if (depth >= size || depth >= MOST_SEEN) {
                judge();
                return;
            }
            for (int next = 0; next < size; next++) {
                if ((used >> next & 1) == 0) {
                    path[depth] = next;
                    arrange(depth + 1, used | 1 << next);
                }
            }
        }

        private void judge() {
            int took = 0;
            int got = 0;
            while (took < size && got < sum) {
                got += worth[path[took]];
                took++;
            }
            if (took != paid || got - sum != change) {
                return;
            }
            if (found == 0) {
                for (int i = 0; i < size; i++) {
                    first[i] = path[i];
                }
            }
            found++;
        }
    }

    /** The tape, and how it is read as a purse or as a day. */
    private static final class Tape {
        private static final int END = -1;
        private static final int NO_FAULT = -1;
        // Above every number that a text may hold, and far from where an int ends.
        private static final int TOO_MUCH = 100000;

        int size;
        int fault = NO_FAULT;
        private int place;
        private final byte[] bytes = new byte[TAPE_BYTES];

        static boolean mayHold(long w, int n) {
            for (int i = 0; i < n; i++) {
                if (!isWithin((int) (w >> 8 * i & 255), 32, 126)) {
                    return false;
                }
            }
            return true;
        }

        void append(long w, int n) {
            for (int i = n - 1; i >= 0 && size < TAPE_BYTES; i--) {
                bytes[size] = (byte) (w >> 8 * i);
                size++;
            }
        }

        void clear() {
            size = 0;
        }

        void readCoins(Coins into, int holder) {
            into.size = 0;
            place = 0;
            fault = NO_FAULT;
            boolean more = true;
            for (int i = 1; more && i <= TEXT_COINS; i++) {
                readCoin(into, holder);
                more = i < TEXT_COINS && takes(',');
            }
            needsEnd();
        }

        private void readCoin(Coins into, int holder) {
            int worth = takeNumber(1, MOST_WORTH);
            needs('y');
            int year = takeNumber(0, MOST_YEAR);
            int stamp = year;
            int kind = 0;
            if (takes('f')) {
                kind = FORGED;
                stamp = takeNumber(0, MOST_YEAR);
            } else if (takes('w')) {
                kind = WORN;
            } else if (takes('b')) {
                kind = BENT;
            }
            into.add(holder, worth, year, stamp, kind);
        }

        void readBills(Bills into) {
            into.size = 0;
            place = 0;
            fault = NO_FAULT;
            boolean more = true;
            for (int i = 1; more && i <= MOST_BILLS; i++) {
                readBill(into);
                more = i < MOST_BILLS && takes(',');
            }
            needsEnd();
        }

        private void readBill(Bills into) {
            int purse = takeDigit(0, PURSES - 1);
            needs('>');
            int shop = takeDigit(PURSES, HOLDERS - 1);
            needs(':');
            int sum = takeNumber(1, MOST_SUM);
            into.add(purse, shop, sum);
        }

        /** The first fault is the one that counts: behind it nothing is taken any more. */
        private void fail(int at) {
            if (fault == NO_FAULT) {
                fault = at;
            }
        }

        private int signHere() {
            return place < size ? bytes[place] : END;
        }

        private void passBlanks() {
            while (place < size && bytes[place] == ' ') {
                place++;
            }
        }

        private boolean takes(int sign) {
            passBlanks();
            if (fault != NO_FAULT || signHere() != sign) {
                return false;
            }
            place++;
            return true;
        }

        private void needs(int sign) {
            if (!takes(sign)) {
                fail(place);
            }
        }

        private void needsEnd() {
            passBlanks();
            if (place < size) {
                fail(place);
            }
        }

        private int takeDigit(int low, int high) {
            passBlanks();
            int v = signHere() - '0';
            if (!isWithin(v, low, high)) {
                fail(place);
                return low;
            }
            place++;
            return v;
        }

        private int takeNumber(int low, int high) {
            passBlanks();
            int start = place;
            int v = 0;
            while (place < size && isWithin(bytes[place], '0', '9')) {
                v = Math.min(v * 10 + bytes[place] - '0', TOO_MUCH);
                place++;
            }
            if (place == start || !isWithin(v, low, high)) {
                fail(start);
                return low;
            }
            return v;
        }
    }

    /** The sheets: rows of one lane each, of which an item keeps only the bits that its lane has. */
    private static final class Sheets {
        final int[] lane = new int[SHEETS];
        final int[] size = new int[SHEETS];
        private final long[] items = new long[SHEETS * MOST_ITEMS];

        Sheets() {
            for (int i = 0; i < SHEETS; i++) {
                lane[i] = NOTHING;
            }
        }

        void lay(int number, int itsLane, int n) {
            lane[number] = itsLane;
            size[number] = n;
            for (int i = 0; i < n; i++) {
                items[number * MOST_ITEMS + i] = 0;
            }
        }

        /** What the machine would find, if n items from one on were taken by a lane; 0 if it finds nothing. */
        int refusal(int number, int asLane, int from, int n) {
            if (lane[number] == NOTHING) {
                return NULL;
            }
            if (lane[number] != asLane) {
                return CAST;
            }
            return from < 0 || from > size[number] - n ? INDEX : 0;
        }

        long read(int number, int i) {
            return items[number * MOST_ITEMS + i];
        }

        void write(int number, int i, long v) {
            long cut = v;
            if (lane[number] == 0) {
                cut = (byte) v;
            } else if (lane[number] == 1) {
                cut = (int) v;
            }
            items[number * MOST_ITEMS + i] = cut;
        }
    }
}
