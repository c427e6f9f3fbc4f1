/**
 * A game of sowing seeds on a small board: the moves, and what both players can reach if they
 * play as well as can be.
 *
 * A board is held as eight places: the houses 0 to 5, then store A (6) and store B (7).
 */
public final class SmallKalah {
    public static final int BAD_ARG = -1000;
    public static final int FULL = -2000;
    public static final int NONE = -4000;

    private static final int HOUSES = 6;
    private static final int HOUSES_OF_ONE = 3;
    // The store of player p is the place STORE_A + p.
    private static final int STORE_A = 6;
    private static final int STORE_B = 7;
    private static final int PLACES = 8;
    private static final int MOST_SEEDS = 6;
    private static final int MOST_IN_STORE = 30;

    // At most 6 seeds lie in 6 houses in (12 choose 6) ways; each with either player to move.
    private static final int LAYOUTS = 924;
    private static final int STATES = 1848;

    // A row of 0 to 6 seeds for each house.
    private static final int ROW = 7;
    private static final int ROWS = 42;

    // A record of a move is the board before it, who moved, and the house that it began from.
    private static final int RECORD_MOVER = 8;
    private static final int RECORD_HOUSE = 9;
    private static final int RECORD = 10;
    private static final int KEPT_MOVES = 20;
    private static final int RECORDS = 200;

    // Beyond any lead that 6 seeds can make.
    private static final int NO_LEAD = 100;

    private final int[] board = new int[PLACES];
    private int mover;

    // A ring, so that the oldest move makes room for the newest.
    private final int[] records = new int[RECORDS];
    private int nextRecord;
    private int keptRecords;

    private final int[] layoutsBelow = new int[ROWS];

    // What each state adds to A less B from there on. The stores are left out, since they
    // change no move, and so a few states stand for all boards.
    private final int[] fairLeads = new int[STATES];
    private final int[] leastLeads = new int[STATES];

    // Boards beside the game's own, to fill the table and to try moves on.
    private final int[] layout = new int[PLACES];
    private final int[] trial = new int[PLACES];
    private final int[] line = new int[PLACES];

    public SmallKalah() {
        for (int h = 0; h < HOUSES; h++) {
            board[h] = 1;
        }
        mover = 0;
        forgetMoves();
        countLayouts();
        fillLeads();
    }

    public int put(int h, int n) {
        if (!isHouse(h) || n < 0 || n > MOST_SEEDS) {
            return BAD_ARG;
        }
        int had = board[h];
        if (seedsInHouses() - had + n > MOST_SEEDS) {
            return FULL;
        }
        board[h] = n;
        forgetMoves();
        return had;
    }

    public int stores(int a, int b) {
        if (a < 0 || a > MOST_IN_STORE || b < 0 || b > MOST_IN_STORE) {
            return BAD_ARG;
        }
        board[STORE_A] = a;
        board[STORE_B] = b;
        forgetMoves();
        return 0;
    }

    public int turn(int p) {
        if (p != 0 && p != 1) {
            return BAD_ARG;
        }
        int before = mover;
        mover = p;
        forgetMoves();
        return before;
    }

    public int seeds(int h) {
        if (h < 0 || h >= PLACES) {
            return BAD_ARG;
        }
        return board[h];
    }

    public int toMove() {
        return mover;
    }

    public boolean over() {
        return isOver(board);
    }

    public int play(int h) {
        if (!isHouse(h)) {
            return BAD_ARG;
        }
        if (!isMove(board, mover, h)) {
            return NONE;
        }
        recordMove(h);
        mover = makeMove(board, mover, h);
        return mover;
    }

    public int undo() {
        if (keptRecords == 0) {
            return NONE;
        }
        keptRecords--;
        nextRecord = nextRecord == 0 ? KEPT_MOVES - 1 : nextRecord - 1;
        int start = nextRecord * RECORD;
        for (int i = 0; i < PLACES; i++) {
            board[i] = records[start + i];
        }
        mover = records[start + RECORD_MOVER];
        return records[start + RECORD_HOUSE];
    }

    public int value() {
        return resultOf(fairLeads, board, mover);
    }

    public int after(int h) {
        if (!isHouse(h)) {
            return BAD_ARG;
        }
        if (!isMove(board, mover, h)) {
            return NONE;
        }
        return resultAfter(fairLeads, board, mover, h);
    }

    public int best() {
        return bestHouse(board, mover);
    }

    public int moves() {
        int count = 0;
        for (int h = 0; h < HOUSES; h++) {
            if (isMove(board, mover, h)) {
                count++;
            }
        }
        return count;
    }

    public int length() {
        copyBoard(board, line);
        int player = mover;
        // Every move leads to a layout of a lesser number, so there are fewer than LAYOUTS moves.
        for (int made = 0; made < LAYOUTS; made++) {
            int h = bestHouse(line, player);
            if (h == NONE) {
                return made;
            }
            player = makeMove(line, player, h);
        }
        return LAYOUTS;
    }

    public int worst() {
        return resultOf(leastLeads, board, mover);
    }

    private static boolean isHouse(int h) {
        return h >= 0 && h < HOUSES;
    }

    private int seedsInHouses() {
        int sum = 0;
        for (int h = 0; h < HOUSES; h++) {
            sum += board[h];
        }
        return sum;
    }

    private static boolean isOver(int[] places) {
        return places[0] + places[1] + places[2] == 0 || places[3] + places[4] + places[5] == 0;
    }

    private static boolean isMove(int[] places, int player, int house) {
        return house / HOUSES_OF_ONE == player && places[house] > 0 && !isOver(places);
    }

    private static void copyBoard(int[] from, int[] to) {
        for (int i = 0; i < PLACES; i++) {
            to[i] = from[i];
        }
    }

    private void forgetMoves() {
        nextRecord = 0;
        keptRecords = 0;
    }

    private void recordMove(int h) {
        int start = nextRecord * RECORD;
        for (int i = 0; i < PLACES; i++) {
            records[start + i] = board[i];
        }
        records[start + RECORD_MOVER] = mover;
        records[start + RECORD_HOUSE] = h;
        nextRecord = nextRecord == KEPT_MOVES - 1 ? 0 : nextRecord + 1;
        if (keptRecords < KEPT_MOVES) {
            keptRecords++;
        }
    }

    /** Makes a move on a board and answers who is to move next. */
    private static int makeMove(int[] places, int player, int house) {
        int last = sow(places, player, house);
        capture(places, player, last);
        if (isOver(places)) {
            bringHome(places);
        }
        return last == STORE_A + player ? player : 1 - player;
    }

    /** Answers the place that the last seed came into. */
    private static int sow(int[] places, int player, int house) {
        int ownStore = STORE_A + player;
        int ownLast = player * HOUSES_OF_ONE + HOUSES_OF_ONE - 1;
        int othersFirst = (1 - player) * HOUSES_OF_ONE;
        int inHand = places[house];
        places[house] = 0;
        int at = house;
        for (int i = 0; i < inHand; i++) {
            if (at == ownLast) {
                at = ownStore;
            } else if (at == ownStore) {
                at = othersFirst;
            } else {
                // From the other player's last house straight on: their store is passed by.
                at = (at + 1) % HOUSES;
            }
            places[at]++;
        }
        return at;
    }

    private static void capture(int[] places, int player, int last) {
        if (last >= HOUSES || last / HOUSES_OF_ONE != player) {
            return;
        }
        int opposite = HOUSES - 1 - last;
        // One seed there now means that none was there before the last one came.
        if (places[last] == 1 && places[opposite] > 0) {
            places[STORE_A + player] += 1 + places[opposite];
            places[last] = 0;
            places[opposite] = 0;
        }
    }

    private static void bringHome(int[] places) {
        for (int h = 0; h < HOUSES; h++) {
            places[STORE_A + h / HOUSES_OF_ONE] += places[h];
            places[h] = 0;
        }
    }

    private int bestHouse(int[] places, int player) {
        int aim = resultOf(fairLeads, places, player);
        for (int h = 0; h < HOUSES; h++) {
            if (isMove(places, player, h)) {
                int result = resultAfter(fairLeads, places, player, h);
                if (result == aim) {
                    return h;
                }
            }
        }
        return NONE;
    }

    private int resultOf(int[] leads, int[] places, int player) {
        int state = layoutNumber(places) * 2 + player;
        return places[STORE_A] - places[STORE_B] + leads[state];
    }

    private int resultAfter(int[] leads, int[] places, int player, int house) {
        copyBoard(places, trial);
        int next = makeMove(trial, player, house);
        return resultOf(leads, trial, next);
    }

    /**
     * Counts, for each h and s, in how many ways the houses 0 to h hold fewer than s seeds
     * together.
     */
    private void countLayouts() {
        for (int h = 0; h < HOUSES; h++) {
            for (int s = 1; s < ROW; s++) {
                int at = h * ROW + s;
                int withOneHouseLess = h == 0 ? 1 : layoutsBelow[at - ROW];
                layoutsBelow[at] = layoutsBelow[at - 1] + withOneHouseLess;
            }
        }
    }

    /**
     * The layouts are numbered by the sum of seeds in the houses 0 to 5, then in 0 to 4, and so
     * on. A move takes seeds out of the houses, or only onward within the player's own, so it
     * always leads to a lesser number.
     */
    private int layoutNumber(int[] places) {
        int number = 0;
        int sum = 0;
        for (int h = 0; h < HOUSES; h++) {
            sum += places[h];
            number += layoutsBelow[h * ROW + sum];
        }
        return number;
    }

    private void setLayout(int number) {
        int left = number;
        for (int h = HOUSES - 1; h >= 0; h--) {
            int sum = 0;
            for (int s = 1; s < ROW; s++) {
                if (layoutsBelow[h * ROW + s] <= left) {
                    sum = s;
                }
            }
            left -= layoutsBelow[h * ROW + sum];
            layout[h] = sum;
            if (h + 1 < HOUSES) {
                layout[h + 1] -= sum;
            }
        }
    }

    /** Goes up the numbers, so that what a move leads to is known before it is asked for. */
    private void fillLeads() {
        for (int number = 0; number < LAYOUTS; number++) {
            setLayout(number);
            for (int player = 0; player < 2; player++) {
                int state = number * 2 + player;
                fairLeads[state] = leadFor(fairLeads, player, player);
                leastLeads[state] = leadFor(leastLeads, player, 1);
            }
        }
    }

    /** The lead that comes of the layout if the player to move plays for the one favoured. */
    private int leadFor(int[] leads, int player, int favoured) {
        if (isOver(layout)) {
            copyBoard(layout, trial);
            bringHome(trial);
            return trial[STORE_A] - trial[STORE_B];
        }
        int found = favoured == 0 ? -NO_LEAD : NO_LEAD;
        for (int h = 0; h < HOUSES; h++) {
            if (isMove(layout, player, h)) {
                int lead = resultAfter(leads, layout, player, h);
                if (favoured == 0 ? lead > found : lead < found) {
                    found = lead;
                }
            }
        }
        return found;
    }
}
