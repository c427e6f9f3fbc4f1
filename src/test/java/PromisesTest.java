/**
 * The promises of the document one by one: ordinary inputs, the edges it names, and wrong inputs.
 * The answers are worked out by hand from its words, but for value, after, best, length and worst
 * of the first board, which are those of ../shared/tests.
 */
public final class PromisesTest {
    private static final int BAD_ARG = -1000;
    private static final int FULL = -2000;
    private static final int NONE = -4000;
    private static final int[] NO_HOUSES =
            {-1, 6, 7, 8, 100, -6, Integer.MAX_VALUE, Integer.MIN_VALUE};
    private static int wrong = 0;

    public static void main(String[] args) {
        constants();
        newObject();
        put();
        putForgetsMoves();
        stores();
        turn();
        seeds();
        toMove();
        over();
        playSows();
        playCaptures();
        playEndsTheGame();
        playRefuses();
        undo();
        undoAfterRefusals();
        value();
        after();
        best();
        moves();
        length();
        worst();
        orderAndLimits();
        storesGrowBeyondThirty();
        System.out.println(wrong == 0 ? "all answers are as due" : wrong + " answers are not as due");
        if (wrong != 0) {
            System.exit(1);
        }
    }

    private static void due(String call, long got, long want) {
        if (got != want) {
            wrong++;
            System.out.println(call + " answered " + got + ", due is " + want);
        }
    }

    private static void due(String call, boolean got, boolean want) {
        due(call, got ? 1 : 0, want ? 1 : 0);
    }

    /** The six houses, store A, store B, and who is to move. */
    private static void dueBoard(String name, SmallKalah x, int... want) {
        for (int place = 0; place < 8; place++) {
            due(name + ": seeds(" + place + ")", x.seeds(place), want[place]);
        }
        due(name + ": toMove()", x.toMove(), want[8]);
    }

    private static SmallKalah board(int... all) {
        SmallKalah x = new SmallKalah();
        for (int h = 0; h < 6; h++) {
            x.put(h, 0);
        }
        for (int h = 0; h < 6; h++) {
            due("put(" + h + ", " + all[h] + ") on an empty house", x.put(h, all[h]), 0);
        }
        due("stores(" + all[6] + ", " + all[7] + ")", x.stores(all[6], all[7]), 0);
        due("turn(" + all[8] + ")", x.turn(all[8]), 0);
        return x;
    }

    private static void constants() {
        due("BAD_ARG", SmallKalah.BAD_ARG, BAD_ARG);
        due("FULL", SmallKalah.FULL, FULL);
        due("NONE", SmallKalah.NONE, NONE);
    }

    private static void newObject() {
        SmallKalah x = new SmallKalah();
        dueBoard("new", x, 1, 1, 1, 1, 1, 1, 0, 0, 0);
        due("new: over()", x.over(), false);
        due("new: undo()", x.undo(), NONE);
        SmallKalah other = new SmallKalah();
        x.put(0, 0);
        x.stores(3, 4);
        x.turn(1);
        dueBoard("two objects share nothing", other, 1, 1, 1, 1, 1, 1, 0, 0, 0);
    }

    private static void put() {
        SmallKalah x = new SmallKalah();
        due("put(0, 2) beyond six", x.put(0, 2), FULL);
        due("put(0, 1) with six", x.put(0, 1), 1);
        due("put(0, 0)", x.put(0, 0), 1);
        due("put(3, 3) beyond six", x.put(3, 3), FULL);
        due("put(3, 2) to just six", x.put(3, 2), 1);
        due("put(3, 2) again", x.put(3, 2), 2);
        dueBoard("put", x, 0, 1, 1, 2, 1, 1, 0, 0, 0);
        for (int h : NO_HOUSES) {
            due("put(" + h + ", 0)", x.put(h, 0), BAD_ARG);
            due("put(" + h + ", 6)", x.put(h, 6), BAD_ARG);
        }
        for (int n : new int[] {-1, 7, 100, Integer.MAX_VALUE, Integer.MIN_VALUE}) {
            due("put(5, " + n + ")", x.put(5, n), BAD_ARG);
        }
        dueBoard("refused put", x, 0, 1, 1, 2, 1, 1, 0, 0, 0);
        SmallKalah full = board(0, 0, 0, 0, 0, 6, 30, 30, 0);
        due("put(5, 6) on six", full.put(5, 6), 6);
        due("put(0, 1) beside six", full.put(0, 1), FULL);
        due("put(5, 0) on six", full.put(5, 0), 6);
        due("put(0, 6) on an empty board", full.put(0, 6), 0);
        dueBoard("stores don't count for put", full, 6, 0, 0, 0, 0, 0, 30, 30, 0);
    }

    private static void putForgetsMoves() {
        SmallKalah x = new SmallKalah();
        x.play(2);
        x.play(0);
        due("put(3, 1) of what is there", x.put(3, 1), 1);
        due("undo() after put", x.undo(), NONE);
        dueBoard("undo after put", x, 0, 2, 0, 1, 1, 1, 1, 0, 1);
        x.play(4);
        due("undo() of a move after put", x.undo(), 4);
        due("undo() before put", x.undo(), NONE);
    }

    private static void stores() {
        SmallKalah x = new SmallKalah();
        due("stores(30, 0)", x.stores(30, 0), 0);
        dueBoard("stores(30, 0)", x, 1, 1, 1, 1, 1, 1, 30, 0, 0);
        due("stores(0, 30)", x.stores(0, 30), 0);
        dueBoard("stores(0, 30)", x, 1, 1, 1, 1, 1, 1, 0, 30, 0);
        due("stores(7, 9)", x.stores(7, 9), 0);
        int[] bad = {-1, 31, Integer.MAX_VALUE, Integer.MIN_VALUE};
        for (int n : bad) {
            due("stores(" + n + ", 0)", x.stores(n, 0), BAD_ARG);
            due("stores(0, " + n + ")", x.stores(0, n), BAD_ARG);
            due("stores(" + n + ", " + n + ")", x.stores(n, n), BAD_ARG);
        }
        dueBoard("refused stores", x, 1, 1, 1, 1, 1, 1, 7, 9, 0);
        x.play(0);
        due("stores(7, 9) as they are", x.stores(7, 9), 0);
        due("undo() after stores", x.undo(), NONE);
        dueBoard("undo after stores", x, 0, 2, 1, 1, 1, 1, 7, 9, 1);
    }

    private static void turn() {
        SmallKalah x = new SmallKalah();
        due("turn(0)", x.turn(0), 0);
        due("turn(1)", x.turn(1), 0);
        due("turn(1) again", x.turn(1), 1);
        for (int p : new int[] {-1, 2, 3, Integer.MAX_VALUE, Integer.MIN_VALUE}) {
            due("turn(" + p + ")", x.turn(p), BAD_ARG);
        }
        dueBoard("turn", x, 1, 1, 1, 1, 1, 1, 0, 0, 1);
        due("turn(0) after turn(1)", x.turn(0), 1);
        x.play(0);
        due("turn(1) as it is", x.turn(1), 1);
        due("undo() after turn", x.undo(), NONE);
        dueBoard("undo after turn", x, 0, 2, 1, 1, 1, 1, 0, 0, 1);
    }

    private static void seeds() {
        SmallKalah x = board(0, 3, 0, 1, 0, 2, 17, 29, 1);
        dueBoard("seeds", x, 0, 3, 0, 1, 0, 2, 17, 29, 1);
        for (int h : new int[] {-1, 8, 9, Integer.MAX_VALUE, Integer.MIN_VALUE}) {
            due("seeds(" + h + ")", x.seeds(h), BAD_ARG);
        }
    }

    private static void toMove() {
        SmallKalah x = new SmallKalah();
        due("toMove() at first", x.toMove(), 0);
        x.play(2);
        due("toMove() after a seed into the store", x.toMove(), 0);
        x.play(0);
        due("toMove() after another move", x.toMove(), 1);
        x.play(3);
        due("toMove() after a move of player 1", x.toMove(), 0);
    }

    private static void over() {
        due("over() with both sides filled", board(0, 0, 1, 0, 0, 1, 0, 0, 0).over(), false);
        due("over() with player 0 empty", board(0, 0, 0, 0, 1, 0, 0, 0, 0).over(), true);
        due("over() with player 0 empty and 1 to move", board(0, 0, 0, 2, 1, 1, 0, 0, 1).over(), true);
        due("over() with player 1 empty", board(0, 3, 0, 0, 0, 0, 0, 0, 0).over(), true);
        due("over() with player 1 empty and to move", board(1, 0, 0, 0, 0, 0, 0, 0, 1).over(), true);
        due("over() with all empty", board(0, 0, 0, 0, 0, 0, 5, 5, 1).over(), true);
        for (int h = 0; h < 6; h++) {
            int[] all = {0, 0, 0, 0, 0, 0, 0, 0, 0};
            all[h] = 1;
            due("over() with a seed in " + h + " alone", board(all).over(), true);
            all[5 - h] = 1;
            due("over() with seeds in " + h + " and opposite", board(all).over(), false);
        }
        SmallKalah x = board(0, 0, 0, 2, 1, 0, 0, 0, 0);
        dueBoard("put brings no seeds into the stores", x, 0, 0, 0, 2, 1, 0, 0, 0, 0);
        x.put(0, 1);
        due("over() after a put that goes on", x.over(), false);
    }

    private static void playSows() {
        SmallKalah x = new SmallKalah();
        due("play(0)", x.play(0), 1);
        dueBoard("play(0)", x, 0, 2, 1, 1, 1, 1, 0, 0, 1);
        due("play(5) into B", x.play(5), 1);
        dueBoard("play(5)", x, 0, 2, 1, 1, 1, 0, 0, 1, 1);
        x = board(5, 0, 0, 1, 0, 0, 0, 0, 0);
        due("play(0) of five", x.play(0), 1);
        dueBoard("play(0) of five", x, 0, 1, 1, 2, 1, 0, 1, 0, 1);
        x = board(1, 0, 4, 1, 0, 0, 0, 0, 0);
        due("play(2) of four", x.play(2), 1);
        dueBoard("play(2) of four", x, 1, 0, 0, 2, 1, 1, 1, 0, 1);
        x = board(1, 0, 0, 1, 0, 4, 0, 0, 1);
        due("play(5) of four", x.play(5), 0);
        dueBoard("play(5) of four", x, 2, 1, 1, 1, 0, 0, 0, 1, 0);
        x = board(1, 0, 0, 0, 5, 0, 0, 0, 1);
        due("play(4) of five", x.play(4), 0);
        dueBoard("play(4) of five", x, 2, 1, 1, 0, 0, 1, 0, 1, 0);
        x = board(3, 0, 0, 0, 1, 0, 0, 0, 0);
        due("play(0) of three into A", x.play(0), 0);
        dueBoard("play(0) of three", x, 0, 1, 1, 0, 1, 0, 1, 0, 0);
        x = board(1, 0, 0, 3, 0, 0, 0, 0, 1);
        due("play(3) of three into B", x.play(3), 1);
        dueBoard("play(3) of three", x, 1, 0, 0, 0, 1, 1, 0, 1, 1);
    }

    private static void playCaptures() {
        SmallKalah x = board(1, 0, 1, 0, 2, 1, 4, 5, 0);
        due("play(0) that captures", x.play(0), 1);
        dueBoard("capture of player 0", x, 0, 0, 1, 0, 0, 1, 7, 5, 1);
        x = board(0, 2, 1, 1, 0, 1, 4, 5, 1);
        due("play(3) that captures", x.play(3), 0);
        dueBoard("capture of player 1", x, 0, 0, 1, 0, 0, 1, 4, 8, 0);
        x = board(1, 0, 1, 1, 0, 1, 0, 0, 0);
        due("play(0) with nothing opposite", x.play(0), 1);
        dueBoard("no capture of nothing", x, 0, 1, 1, 1, 0, 1, 0, 0, 1);
        x = board(1, 1, 0, 0, 2, 1, 0, 0, 0);
        due("play(0) into a house that is not empty", x.play(0), 1);
        dueBoard("no capture from a filled house", x, 0, 2, 0, 0, 2, 1, 0, 0, 1);
        x = board(0, 3, 1, 0, 1, 0, 0, 0, 0);
        due("play(1) into an empty house of the other", x.play(1), 1);
        dueBoard("no capture from the other's house", x, 0, 0, 2, 1, 1, 0, 1, 0, 1);
        x = board(1, 0, 0, 0, 0, 2, 0, 0, 1);
        due("play(5) into a filled house of the other", x.play(5), 0);
        dueBoard("the other's house, player 1 empty", x, 0, 0, 0, 0, 0, 0, 2, 1, 0);
        x = board(0, 1, 5, 0, 0, 0, 0, 0, 0);
        due("play(2) when player 1 is empty", x.play(2), NONE);
        x = board(0, 0, 5, 1, 0, 0, 0, 0, 0);
        due("play(2) all the way round", x.play(2), 1);
        dueBoard("capture of a seed just sown", x, 0, 0, 0, 0, 0, 0, 3, 3, 1);
        x = board(1, 0, 0, 0, 0, 5, 0, 0, 1);
        due("play(5) all the way round", x.play(5), 0);
        dueBoard("capture of a seed just sown by player 1", x, 0, 0, 0, 0, 0, 0, 3, 3, 0);
    }

    private static void playEndsTheGame() {
        SmallKalah x = board(0, 0, 1, 1, 0, 2, 0, 0, 0);
        due("play(2) of the last seed, into A", x.play(2), 0);
        dueBoard("the rest goes home to B", x, 0, 0, 0, 0, 0, 0, 1, 3, 0);
        due("over() at the end", x.over(), true);
        due("play(2) at the end", x.play(2), NONE);
        due("undo() at the end", x.undo(), 2);
        dueBoard("the end taken back", x, 0, 0, 1, 1, 0, 2, 0, 0, 0);
        x = board(2, 1, 0, 0, 0, 1, 0, 0, 1);
        due("play(5) of the last seed, into B", x.play(5), 1);
        dueBoard("the rest goes home to A", x, 0, 0, 0, 0, 0, 0, 3, 1, 1);
        x = board(1, 0, 2, 0, 1, 0, 10, 20, 0);
        due("play(0) that captures the other's last", x.play(0), 1);
        dueBoard("the end by a capture", x, 0, 0, 0, 0, 0, 0, 14, 20, 1);
    }

    private static void playRefuses() {
        SmallKalah x = board(0, 2, 1, 1, 0, 1, 0, 0, 0);
        due("play(0) of none", x.play(0), NONE);
        due("play(3) of the other", x.play(3), NONE);
        due("play(4) of none of the other", x.play(4), NONE);
        for (int h : NO_HOUSES) {
            due("play(" + h + ")", x.play(h), BAD_ARG);
        }
        dueBoard("refused play", x, 0, 2, 1, 1, 0, 1, 0, 0, 0);
        due("undo() of refused moves", x.undo(), NONE);
        x.turn(1);
        due("play(1) of the other", x.play(1), NONE);
        due("play(4) of none", x.play(4), NONE);
    }

    private static void undo() {
        SmallKalah x = new SmallKalah();
        x.play(2);
        x.play(1);
        x.play(4);
        due("undo() of the third", x.undo(), 4);
        dueBoard("undo of the third", x, 1, 0, 0, 0, 1, 1, 3, 0, 1);
        due("play(5) instead", x.play(5), 1);
        due("undo() of what was played instead", x.undo(), 5);
        due("undo() of the second", x.undo(), 1);
        dueBoard("undo of the second", x, 1, 1, 0, 1, 1, 1, 1, 0, 0);
        due("undo() of the first", x.undo(), 2);
        dueBoard("undo of the first", x, 1, 1, 1, 1, 1, 1, 0, 0, 0);
        due("undo() of none", x.undo(), NONE);
        dueBoard("refused undo", x, 1, 1, 1, 1, 1, 1, 0, 0, 0);
        for (int i = 0; i < 50; i++) {
            due("play(0) after many", x.play(0), 1);
            due("undo() after many", x.undo(), 0);
        }
        due("undo() of none after many", x.undo(), NONE);
    }

    private static void undoAfterRefusals() {
        SmallKalah x = new SmallKalah();
        x.play(0);
        x.put(0, 7);
        x.put(6, 0);
        x.put(1, 6);
        x.stores(31, 0);
        x.turn(2);
        x.play(0);
        x.play(6);
        askAll(x);
        due("undo() after refused calls and questions", x.undo(), 0);
        dueBoard("undo after refused calls", x, 1, 1, 1, 1, 1, 1, 0, 0, 0);
    }

    private static void askAll(SmallKalah x) {
        x.seeds(0);
        x.toMove();
        x.over();
        x.value();
        x.after(3);
        x.best();
        x.moves();
        x.length();
        x.worst();
    }

    private static void value() {
        due("value() at first", new SmallKalah().value(), 0);
        due("value() of none", board(0, 0, 0, 0, 0, 0, 0, 0, 0).value(), 0);
        due("value() of stores alone", board(0, 0, 0, 0, 0, 0, 30, 4, 1).value(), 26);
        due("value() of seeds at home", board(0, 0, 0, 3, 2, 1, 0, 30, 0).value(), -36);
        due("value() of seeds at home of A", board(1, 2, 3, 0, 0, 0, 30, 0, 1).value(), 36);
        due("value() of two last seeds", board(0, 0, 1, 0, 0, 1, 2, 0, 0).value(), 2);
        due("value() of a capture", board(1, 0, 0, 0, 1, 0, 0, 0, 0).value(), 2);
        due("value() of a capture of player 1", board(1, 0, 0, 0, 1, 0, 3, 0, 1).value(), 1);
        // From 0 the seed captures two; from 2 it goes into A, and then 0 captures them still.
        due("value() of two moves", board(1, 0, 1, 0, 2, 0, 0, 0, 0).value(), 4);
        SmallKalah x = board(5, 0, 0, 1, 0, 0, 0, 0, 1);
        int before = x.value();
        due("value() again", x.value(), before);
        dueBoard("value changes nothing", x, 5, 0, 0, 1, 0, 0, 0, 0, 1);
    }

    private static void after() {
        SmallKalah x = new SmallKalah();
        due("after(0)", x.after(0), 0);
        due("after(1)", x.after(1), -4);
        due("after(2)", x.after(2), 0);
        for (int h = 3; h < 6; h++) {
            due("after(" + h + ") of the other", x.after(h), NONE);
        }
        for (int h : NO_HOUSES) {
            due("after(" + h + ")", x.after(h), BAD_ARG);
        }
        dueBoard("after changes nothing", x, 1, 1, 1, 1, 1, 1, 0, 0, 0);
        due("undo() after after", x.undo(), NONE);
        x = board(1, 0, 0, 0, 1, 0, 3, 1, 0);
        due("after(0) that captures", x.after(0), 4);
        due("after(1) of none", x.after(1), NONE);
        x = board(1, 0, 0, 0, 1, 0, 3, 1, 1);
        due("after(4) that captures", x.after(4), 0);
        due("after(0) of the other", x.after(0), NONE);
        due("after(5) of none", x.after(5), NONE);
    }

    private static void best() {
        SmallKalah x = new SmallKalah();
        due("best() of two that are as good", x.best(), 0);
        dueBoard("best changes nothing", x, 1, 1, 1, 1, 1, 1, 0, 0, 0);
        due("best() with 0 to move and player 0 empty", board(0, 0, 0, 1, 0, 0, 0, 0, 0).best(), NONE);
        due("best() with 1 to move and player 0 empty", board(0, 0, 0, 1, 0, 0, 0, 0, 1).best(), NONE);
        due("best() of none", board(0, 0, 0, 0, 0, 0, 9, 0, 1).best(), NONE);
        due("best() of one", board(0, 0, 1, 0, 0, 1, 0, 0, 0).best(), 2);
        due("best() of one of player 1", board(0, 0, 1, 0, 0, 1, 0, 0, 1).best(), 5);
        // From 0 the seed joins the one in 1, and player 1 captures both from 3: 0 less 3.
        // From 1 the seed captures player 1's last one, and the other is at home: 3 less 0.
        due("best() that is not the least", board(1, 1, 0, 1, 0, 0, 0, 0, 0).best(), 1);
        // The same seen from the other side.
        due("best() that is not the least of player 1", board(1, 0, 0, 1, 1, 0, 0, 0, 1).best(), 4);
    }

    private static void moves() {
        due("moves() at first", new SmallKalah().moves(), 3);
        due("moves() of two", board(1, 0, 1, 1, 1, 1, 0, 0, 0).moves(), 2);
        due("moves() of one of player 1", board(1, 2, 1, 0, 0, 1, 0, 0, 1).moves(), 1);
        due("moves() with player 1 empty", board(1, 2, 1, 0, 0, 0, 0, 0, 0).moves(), 0);
        due("moves() with player 0 empty", board(0, 0, 0, 1, 2, 1, 0, 0, 1).moves(), 0);
        due("moves() of none", board(0, 0, 0, 0, 0, 0, 1, 1, 0).moves(), 0);
    }

    private static void length() {
        SmallKalah x = new SmallKalah();
        due("length() at first", x.length(), 5);
        dueBoard("length changes nothing", x, 1, 1, 1, 1, 1, 1, 0, 0, 0);
        due("undo() after length", x.undo(), NONE);
        due("length() with player 0 empty", board(0, 0, 0, 1, 0, 0, 0, 0, 1).length(), 0);
        due("length() of none", board(0, 0, 0, 0, 0, 0, 0, 3, 0).length(), 0);
        due("length() of one move", board(0, 0, 1, 0, 0, 1, 0, 0, 0).length(), 1);
        due("length() of a capture", board(1, 0, 0, 0, 1, 0, 0, 0, 0).length(), 1);
        for (int i = 5; i > 0; i--) {
            due("length() along the best moves", x.length(), i);
            x.play(x.best());
        }
        due("over() after length() best moves", x.over(), true);
        due("length() at the end", x.length(), 0);
    }

    private static void worst() {
        SmallKalah x = new SmallKalah();
        due("worst() at first", x.worst(), -4);
        dueBoard("worst changes nothing", x, 1, 1, 1, 1, 1, 1, 0, 0, 0);
        due("worst() of none", board(0, 0, 0, 0, 0, 0, 30, 4, 1).worst(), 26);
        due("worst() of seeds at home", board(0, 0, 0, 3, 2, 1, 0, 30, 0).worst(), -36);
        due("worst() of one move", board(1, 0, 0, 0, 1, 0, 5, 0, 0).worst(), 7);
        // Player 0 could capture from 1 for 3, but moves from 0, and player 1 captures both.
        due("value() against worst()", board(1, 1, 0, 1, 0, 0, 0, 0, 0).value(), 3);
        due("worst() against player 0", board(1, 1, 0, 1, 0, 0, 0, 0, 0).worst(), -3);
        due("worst() with player 1 to move", board(1, 0, 0, 1, 1, 0, 0, 0, 1).worst(), -3);
    }

    private static void orderAndLimits() {
        SmallKalah x = board(1, 0, 0, 0, 0, 0, 0, 0, 0);
        due("play(0) when it is over", x.play(0), NONE);
        due("after(0) when it is over", x.after(0), NONE);
        for (int h : NO_HOUSES) {
            due("play(" + h + ") when it is over", x.play(h), BAD_ARG);
            due("after(" + h + ") when it is over", x.after(h), BAD_ARG);
        }
        dueBoard("refused when it is over", x, 1, 0, 0, 0, 0, 0, 0, 0, 0);
    }

    /** The range of stores() binds its arguments, not what moves bring into a store. */
    private static void storesGrowBeyondThirty() {
        SmallKalah x = board(0, 0, 1, 1, 0, 0, 30, 30, 0);
        due("value() beyond thirty", x.value(), 0);
        due("play(2) beyond thirty", x.play(2), 0);
        dueBoard("beyond thirty", x, 0, 0, 0, 0, 0, 0, 31, 31, 0);
        int inA = 31;
        for (int i = 0; i < 60; i++) {
            x.put(2, 1);
            x.put(0, 1);
            x.put(3, 1);
            x.play(2);
            inA++;
        }
        due("seeds(6) far beyond thirty", x.seeds(6), inA);
        due("after(best()) far beyond thirty", x.after(x.best()), x.value());
    }
}
