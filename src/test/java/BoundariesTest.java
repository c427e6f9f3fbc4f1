import java.util.ArrayList;
import java.util.List;
import java.util.function.Supplier;
import java.util.function.ToIntFunction;

/**
 * One test for each sentence of the document that names a boundary case: too small, too large,
 * empty, full, a wrap-around, a refused call. Each test begins with the sentence, and a wrong
 * answer is told with it. The boards and answers are worked out by hand from the sentences, but for
 * value, best, length and worst of the first board, which are those of ../shared/tests. After a
 * refused call, the object is compared with another one that the call was not made on.
 */
public final class BoundariesTest {
    private static final int BAD_ARG = -1000;
    private static final int FULL = -2000;
    private static final int NONE = -4000;
    private static final int LEAST = Integer.MIN_VALUE;
    private static final int GREATEST = Integer.MAX_VALUE;
    private static final int MOST_CALLS = 512;
    private static final int MOST_TAKEN_BACK = 20;

    // Beside the nearest wrong houses: numbers whose low bits, or whose product with a small
    // number, would look right.
    private static final int[] NO_HOUSES = {-1, 6, 7, 8, -5, -6, 256, 65536, 1 << 30, LEAST,
        LEAST + 1, GREATEST, GREATEST - 1};
    private static final int[] NO_PLACES = {-1, 8, 9, -7, -8, 256, 65536, 1 << 30, LEAST,
        LEAST + 1, GREATEST, GREATEST - 1};
    private static final int[] NO_SEEDS = {-1, 7, 8, -6, 256, 65536, 1 << 30, LEAST,
        LEAST + 1, GREATEST, GREATEST - 1};
    private static final int[] NO_STORES = {-1, 31, 32, -30, 256, 65536, 1 << 30, LEAST,
        LEAST + 1, GREATEST, GREATEST - 1};
    private static final int[] NO_PLAYERS = {-1, 2, 3, -2, 256, 65536, 1 << 30, LEAST,
        LEAST + 1, GREATEST, GREATEST - 1};

    private static final Runnable[] TESTS = {
        BoundariesTest::theLastOfAllCalls,
        BoundariesTest::housesOfThePlayers,
        BoundariesTest::goingRound,
        BoundariesTest::sixSeedsAtMost,
        BoundariesTest::oppositeHouses,
        BoundariesTest::overIfOneSideIsEmpty,
        BoundariesTest::moveOfThePlayerToMove,
        BoundariesTest::moveFromAHouseThatIsNotEmpty,
        BoundariesTest::moveWhileNotOver,
        BoundariesTest::allSeedsAreTakenOut,
        BoundariesTest::notIntoTheOthersStore,
        BoundariesTest::lastIntoTheOwnStore,
        BoundariesTest::lastElsewhere,
        BoundariesTest::captureFromAnEmptyHouse,
        BoundariesTest::noCaptureFromAFilledHouse,
        BoundariesTest::noCaptureOutsideTheOwnHouses,
        BoundariesTest::noCaptureOfNothing,
        BoundariesTest::theHouseThatTheMoveBeganFrom,
        BoundariesTest::theRestGoesHome,
        BoundariesTest::theRestGoesHomeAfterACapture,
        BoundariesTest::nothingGoesHomeBefore,
        BoundariesTest::resultWithSeedsInHouses,
        BoundariesTest::valueForEitherPlayer,
        BoundariesTest::noCallThrows,
        BoundariesTest::aRefusedCallChangesNothing,
        BoundariesTest::newObject,
        BoundariesTest::putHasFromNowOn,
        BoundariesTest::putRefusesHouses,
        BoundariesTest::putRefusesNumbers,
        BoundariesTest::putRefusesTooMany,
        BoundariesTest::putTestsInOrder,
        BoundariesTest::putAnswersWhatWasThere,
        BoundariesTest::putEndsTakingBack,
        BoundariesTest::storesHaveFromNowOn,
        BoundariesTest::storesRefuses,
        BoundariesTest::storesEndsTakingBack,
        BoundariesTest::turnSetsThePlayer,
        BoundariesTest::turnRefuses,
        BoundariesTest::turnEndsTakingBack,
        BoundariesTest::seedsOfEachPlace,
        BoundariesTest::seedsRefuses,
        BoundariesTest::toMoveAfterRefusals,
        BoundariesTest::overOfBoardsPutTogether,
        BoundariesTest::playRefusesHouses,
        BoundariesTest::playRefusesWhatIsNoMove,
        BoundariesTest::playAnswersWhoIsNext,
        BoundariesTest::undoOfNone,
        BoundariesTest::undoAnswersTheHouse,
        BoundariesTest::undoOfTheLongestGame,
        BoundariesTest::undoOfTheLastMoveOfAGame,
        BoundariesTest::valueAtTheEdges,
        BoundariesTest::afterAtTheEdges,
        BoundariesTest::afterRefusesHouses,
        BoundariesTest::afterRefusesWhatIsNoMove,
        BoundariesTest::bestIsTheLeast,
        BoundariesTest::bestWhenOver,
        BoundariesTest::movesFromNoneToThree,
        BoundariesTest::lengthAtTheEdges,
        BoundariesTest::lengthWhenOver,
        BoundariesTest::worstAtTheEdges,
        BoundariesTest::badArgBeforeNone
    };

    private static String sentence = "";
    private static int wrong = 0;

    public static void main(String[] args) {
        for (Runnable test : TESTS) {
            attempt(test);
        }
        System.out.println(wrong == 0 ? TESTS.length + " sentences hold"
                : wrong + " answers are not as due");
        if (wrong != 0) {
            System.exit(1);
        }
    }

    private static void attempt(Runnable test) {
        try {
            test.run();
        } catch (RuntimeException | Error e) {
            wrong++;
            System.out.println("\"" + sentence + "\": a call threw " + e);
        }
    }

    private static void says(String words) {
        sentence = words;
    }

    private static void due(String call, long got, long want) {
        if (got != want) {
            wrong++;
            System.out.println("\"" + sentence + "\": " + call + " answered " + got
                    + ", due is " + want);
        }
    }

    private static void due(String call, boolean got, boolean want) {
        due(call, got ? 1 : 0, want ? 1 : 0);
    }

    /** The six houses, store A, store B, and who is to move. */
    private static void dueBoard(String when, SmallKalah x, int... want) {
        for (int place = 0; place < 8; place++) {
            due("seeds(" + place + ") " + when, x.seeds(place), want[place]);
        }
        due("toMove() " + when, x.toMove(), want[8]);
    }

    /** A move, the player that it answers, and the board that it leads to. */
    private static void duePlay(SmallKalah x, int h, int... want) {
        due("play(" + h + ")", x.play(h), want[8]);
        dueBoard("after play(" + h + ")", x, want);
    }

    private static SmallKalah board(int... all) {
        SmallKalah x = new SmallKalah();
        for (int h = 0; h < 6; h++) {
            x.put(h, 0);
        }
        for (int h = 0; h < 6; h++) {
            x.put(h, all[h]);
        }
        x.stores(all[6], all[7]);
        x.turn(all[8]);
        return x;
    }

    /** As board(), with one house given alone. */
    private static SmallKalah boardOfOne(int house, int seeds, int mover) {
        int[] all = new int[9];
        all[house] = seeds;
        all[8] = mover;
        return board(all);
    }

    private static SmallKalah played(SmallKalah x, int... houses) {
        for (int h : houses) {
            x.play(h);
        }
        return x;
    }

    /** States that differ in all that a refused call could spoil. */
    private static List<Supplier<SmallKalah>> states() {
        List<Supplier<SmallKalah>> all = new ArrayList<>();
        all.add(SmallKalah::new);
        all.add(() -> played(new SmallKalah(), 0));
        all.add(() -> played(new SmallKalah(), 2, 1, 4));
        all.add(() -> played(board(0, 2, 1, 1, 0, 1, 30, 0, 1), 5));
        all.add(() -> board(0, 0, 0, 0, 0, 0, 3, 30, 1));
        all.add(() -> board(0, 0, 0, 0, 6, 0, 0, 0, 1));
        all.add(() -> board(1, 2, 3, 0, 0, 0, 30, 30, 0));
        all.add(() -> played(board(1, 0, 2, 0, 1, 0, 10, 20, 0), 0));
        all.add(() -> played(board(2, 1, 2, 1, 0, 0, 0, 0, 0), 1, 3, 2, 4, 3, 0, 5, 4, 2, 1, 5));
        return all;
    }

    /** Refused in all states. */
    private static void refused(String call, int code, ToIntFunction<SmallKalah> made) {
        for (Supplier<SmallKalah> state : states()) {
            refused(call, code, state, made);
        }
    }

    private static void refused(String call, int code, Supplier<SmallKalah> state,
            ToIntFunction<SmallKalah> made) {
        SmallKalah x = state.get();
        due(call, made.applyAsInt(x), code);
        due(call + " again", made.applyAsInt(x), code);
        dueSameAnswers("after refused " + call, x, state.get());
        changesNoMoves("refused " + call, state, made);
    }

    private static void dueSameAnswers(String when, SmallKalah x, SmallKalah other) {
        int[] got = answers(x);
        int[] want = answers(other);
        for (int i = 0; i < want.length; i++) {
            due("answer " + i + " " + when, got[i], want[i]);
        }
    }

    /** Asks nothing else, for a question too could spoil the moves that are kept. */
    private static void changesNoMoves(String call, Supplier<SmallKalah> state,
            ToIntFunction<SmallKalah> made) {
        SmallKalah x = state.get();
        SmallKalah other = state.get();
        made.applyAsInt(x);
        int back = 0;
        for (int i = 0; i <= MOST_TAKEN_BACK && back >= 0; i++) {
            back = other.undo();
            due("undo() after " + call, x.undo(), back);
        }
        dueSameAnswers("after undo() after " + call, x, other);
    }

    /** A question, on an object whose last two moves are from 2 and from 0. */
    private static void changesNothing(String call, ToIntFunction<SmallKalah> question) {
        SmallKalah x = played(new SmallKalah(), 2, 0);
        question.applyAsInt(x);
        dueBoard("after " + call, x, 0, 2, 0, 1, 1, 1, 1, 0, 1);
        due("undo() after " + call, x.undo(), 0);
        question.applyAsInt(x);
        dueBoard("after undo() and " + call, x, 1, 1, 0, 1, 1, 1, 1, 0, 0);
        due("undo() again after " + call, x.undo(), 2);
        dueBoard("after undo() again", x, 1, 1, 1, 1, 1, 1, 0, 0, 0);
    }

    private static int[] answers(SmallKalah x) {
        int[] all = new int[21];
        for (int place = 0; place < 8; place++) {
            all[place] = x.seeds(place);
        }
        for (int h = 0; h < 6; h++) {
            all[8 + h] = x.after(h);
        }
        all[14] = x.toMove();
        all[15] = x.over() ? 1 : 0;
        all[16] = x.value();
        all[17] = x.best();
        all[18] = x.moves();
        all[19] = x.length();
        all[20] = x.worst();
        return all;
    }

    // What it is

    private static void theLastOfAllCalls() {
        says("An object is used for at most 512 calls after it has been made");
        SmallKalah x = new SmallKalah();
        int calls = 0;
        int inA = 0;
        // Each round brings one seed into A; the seed in house 2 is put back.
        while (calls < MOST_CALLS - 12) {
            due("play(2) at call " + calls, x.play(2), 0);
            inA++;
            due("put(2, 1) at call " + calls, x.put(2, 1), 0);
            calls += 2;
        }
        due("play(2) near the end", x.play(2), 0);
        due("undo() near the end", x.undo(), 2);
        due("seeds(6) near the end", x.seeds(6), inA);
        due("put(0, 2) near the end", x.put(0, 2), FULL);
        due("value() near the end", x.value(), inA);
        due("after(3) near the end", x.after(3), NONE);
        due("best() near the end", x.best(), 0);
        due("length() near the end", x.length(), 5);
        due("moves() near the end", x.moves(), 3);
        due("worst() near the end", x.worst(), inA - 4);
        due("play(2) at call 511", x.play(2), 0);
        due("undo() at call 512", x.undo(), 2);

        SmallKalah back = new SmallKalah();
        for (calls = 0; calls < MOST_CALLS; calls += 2) {
            due("play(0) at call " + calls, back.play(0), 1);
            due("undo() after call " + calls, back.undo(), 0);
        }
        SmallKalah none = new SmallKalah();
        for (calls = 0; calls < MOST_CALLS; calls++) {
            due("undo() at call " + calls, none.undo(), NONE);
        }
    }

    // Terms

    private static void housesOfThePlayers() {
        says("0, 1, 2 belong to player 0 and 3, 4, 5 to player 1");
        for (int h = 0; h < 6; h++) {
            SmallKalah first = new SmallKalah();
            due("play(" + h + ") of player 0 is a move", first.play(h) != NONE, h <= 2);
            SmallKalah second = new SmallKalah();
            second.turn(1);
            due("play(" + h + ") of player 1 is a move", second.play(h) != NONE, h >= 3);
        }
    }

    private static void goingRound() {
        says("Going round is 0, 1, 2, A, 3, 4, 5, B, 0, and so on");
        duePlay(board(5, 0, 0, 1, 0, 0, 0, 0, 0), 0, 0, 1, 1, 2, 1, 0, 1, 0, 1);
        duePlay(board(0, 5, 0, 1, 0, 0, 0, 0, 0), 1, 0, 0, 1, 2, 1, 1, 1, 0, 1);
        duePlay(board(1, 0, 4, 1, 0, 0, 0, 0, 0), 2, 1, 0, 0, 2, 1, 1, 1, 0, 1);
        duePlay(board(1, 0, 0, 5, 0, 0, 0, 0, 1), 3, 2, 1, 0, 0, 1, 1, 0, 1, 0);
        duePlay(board(1, 0, 0, 0, 5, 0, 0, 0, 1), 4, 2, 1, 1, 0, 0, 1, 0, 1, 0);
        duePlay(board(1, 0, 0, 1, 0, 4, 0, 0, 1), 5, 2, 1, 1, 1, 0, 0, 0, 1, 0);
    }

    private static void sixSeedsAtMost() {
        says("In the houses together there are at most 6 SEEDS");
        for (int h = 0; h < 6; h++) {
            SmallKalah six = boardOfOne(h, 6, 0);
            due("seeds(" + h + ") of six in one house", six.seeds(h), 6);
            for (int other = 0; other < 6; other++) {
                if (other != h) {
                    due("put(" + other + ", 1) beside six in " + h, six.put(other, 1), FULL);
                }
            }
            SmallKalah spread = new SmallKalah();
            due("put(" + h + ", 2) beside five", spread.put(h, 2), FULL);
            due("put(" + h + ", 1) beside five", spread.put(h, 1), 1);
        }
        SmallKalah stores = board(1, 1, 1, 1, 1, 0, 30, 30, 0);
        due("put(5, 1) beside five and full stores", stores.put(5, 1), 0);
    }

    private static void oppositeHouses() {
        says("House h lies OPPOSITE house 5 - h");
        duePlay(board(0, 0, 5, 0, 0, 1, 0, 0, 0), 2, 0, 0, 0, 0, 0, 0, 4, 2, 1);
        duePlay(board(1, 0, 1, 1, 2, 1, 0, 0, 0), 0, 0, 0, 1, 1, 0, 1, 3, 0, 1);
        duePlay(board(1, 1, 0, 2, 1, 1, 0, 0, 0), 1, 1, 0, 0, 0, 1, 1, 3, 0, 1);
        duePlay(board(0, 0, 1, 0, 0, 5, 0, 0, 1), 5, 0, 0, 0, 0, 0, 0, 2, 4, 0);
        duePlay(board(1, 2, 1, 1, 0, 1, 0, 0, 1), 3, 1, 0, 1, 0, 0, 1, 0, 3, 0);
        duePlay(board(2, 1, 1, 1, 1, 0, 0, 0, 1), 4, 0, 1, 1, 1, 0, 0, 0, 3, 0);
    }

    private static void overIfOneSideIsEmpty() {
        says("The game is OVER if all houses of player 0 or all of player 1 are empty");
        for (int mover = 0; mover < 2; mover++) {
            due("over() of six empty houses", board(0, 0, 0, 0, 0, 0, 0, 0, mover).over(), true);
            due("over() of full stores alone", board(0, 0, 0, 0, 0, 0, 30, 30, mover).over(), true);
            due("over() with 0, 1, 2 empty", board(0, 0, 0, 2, 2, 2, 0, 0, mover).over(), true);
            due("over() with 3, 4, 5 empty", board(2, 2, 2, 0, 0, 0, 0, 0, mover).over(), true);
            for (int low = 0; low < 3; low++) {
                due("over() of a seed in " + low, boardOfOne(low, 1, mover).over(), true);
                for (int high = 3; high < 6; high++) {
                    SmallKalah x = boardOfOne(high, 1, mover);
                    due("over() of a seed in " + high, x.over(), true);
                    x.put(low, 1);
                    due("over() of seeds in " + low + " and " + high, x.over(), false);
                }
            }
        }
    }

    private static void moveOfThePlayerToMove() {
        says("A MOVE from a house of the player to move");
        for (int h = 0; h < 6; h++) {
            int house = h;
            int other = h < 3 ? 1 : 0;
            refused("play(" + h + ") of the other player", NONE,
                    () -> board(1, 1, 1, 1, 1, 1, 0, 0, other), x -> x.play(house));
        }
    }

    private static void moveFromAHouseThatIsNotEmpty() {
        says("which is not empty");
        for (int h = 0; h < 6; h++) {
            int house = h;
            int[] all = {1, 1, 1, 1, 1, 1, 0, 0, h < 3 ? 0 : 1};
            all[h] = 0;
            refused("play(" + h + ") of an empty house", NONE, () -> board(all),
                    x -> x.play(house));
            all[h] = 1;
            due("play(" + h + ") of a seed", board(all).play(h) != NONE, true);
        }
    }

    private static void moveWhileNotOver() {
        says("(only while the game is not over)");
        for (int h = 0; h < 6; h++) {
            int house = h;
            for (int n = 1; n <= 6; n++) {
                int seeds = n;
                refused("play(" + h + ") of " + n + " when it is over", NONE,
                        () -> boardOfOne(house, seeds, house < 3 ? 0 : 1), x -> x.play(house));
            }
        }
    }

    private static void allSeedsAreTakenOut() {
        says("all seeds are taken out of it and put one by one into the next houses and stores");
        duePlay(board(1, 1, 0, 1, 0, 0, 0, 0, 0), 0, 0, 2, 0, 1, 0, 0, 0, 0, 1);
        duePlay(board(2, 1, 1, 1, 0, 0, 0, 0, 0), 0, 0, 2, 2, 1, 0, 0, 0, 0, 1);
        duePlay(board(5, 0, 0, 0, 0, 1, 0, 0, 0), 0, 0, 1, 1, 1, 1, 1, 1, 0, 1);
        duePlay(board(0, 0, 1, 5, 0, 0, 0, 0, 1), 3, 1, 1, 1, 0, 1, 1, 0, 1, 0);
    }

    private static void notIntoTheOthersStore() {
        says("but not into the other player's store");
        // The fifth seed passes the other's store by, comes into an empty house, and captures.
        duePlay(board(0, 0, 5, 1, 0, 0, 7, 9, 0), 2, 0, 0, 0, 0, 0, 0, 10, 12, 1);
        duePlay(board(0, 0, 5, 0, 1, 0, 7, 9, 0), 2, 0, 0, 0, 0, 0, 0, 10, 12, 1);
        duePlay(board(0, 0, 5, 0, 0, 1, 7, 9, 0), 2, 0, 0, 0, 0, 0, 0, 11, 11, 1);
        duePlay(board(1, 0, 0, 0, 0, 5, 7, 9, 1), 5, 0, 0, 0, 0, 0, 0, 10, 12, 0);
        duePlay(board(0, 1, 0, 0, 0, 5, 7, 9, 1), 5, 0, 0, 0, 0, 0, 0, 10, 12, 0);
        duePlay(board(0, 0, 1, 0, 0, 5, 7, 9, 1), 5, 0, 0, 0, 0, 0, 0, 9, 13, 0);
    }

    private static void lastIntoTheOwnStore() {
        says("If the last one came into the player's own store, the same player is to move again");
        duePlay(board(3, 0, 0, 1, 0, 0, 0, 0, 0), 0, 0, 1, 1, 1, 0, 0, 1, 0, 0);
        duePlay(board(0, 2, 0, 1, 0, 0, 0, 0, 0), 1, 0, 0, 1, 1, 0, 0, 1, 0, 0);
        duePlay(board(1, 0, 1, 1, 0, 0, 0, 0, 0), 2, 1, 0, 0, 1, 0, 0, 1, 0, 0);
        duePlay(board(1, 0, 0, 3, 0, 0, 0, 0, 1), 3, 1, 0, 0, 0, 1, 1, 0, 1, 1);
        duePlay(board(1, 0, 0, 0, 2, 0, 0, 0, 1), 4, 1, 0, 0, 0, 0, 1, 0, 1, 1);
        duePlay(board(1, 0, 0, 1, 0, 1, 0, 0, 1), 5, 1, 0, 0, 1, 0, 0, 0, 1, 1);
        // Also if that move was the game's last one.
        duePlay(board(0, 0, 1, 1, 0, 0, 0, 0, 0), 2, 0, 0, 0, 0, 0, 0, 1, 1, 0);
        duePlay(board(1, 0, 0, 0, 0, 1, 0, 0, 1), 5, 0, 0, 0, 0, 0, 0, 1, 1, 1);
    }

    private static void lastElsewhere() {
        says("else the other one");
        // One seed less and one seed more than would come just into the own store.
        duePlay(board(2, 0, 0, 0, 0, 1, 0, 0, 0), 0, 0, 1, 1, 0, 0, 1, 0, 0, 1);
        duePlay(board(4, 0, 0, 0, 0, 1, 0, 0, 0), 0, 0, 1, 1, 1, 0, 1, 1, 0, 1);
        duePlay(board(0, 1, 0, 0, 1, 0, 0, 0, 0), 1, 0, 0, 1, 0, 1, 0, 0, 0, 1);
        duePlay(board(1, 3, 0, 0, 1, 0, 0, 0, 0), 1, 1, 0, 1, 1, 1, 0, 1, 0, 1);
        duePlay(board(1, 0, 2, 0, 1, 0, 0, 0, 0), 2, 1, 0, 0, 1, 1, 0, 1, 0, 1);
        duePlay(board(0, 0, 1, 2, 0, 0, 0, 0, 1), 3, 0, 0, 1, 0, 1, 1, 0, 0, 0);
        duePlay(board(0, 0, 1, 4, 0, 0, 0, 0, 1), 3, 1, 0, 1, 0, 1, 1, 0, 1, 0);
        duePlay(board(0, 1, 0, 0, 1, 0, 0, 0, 1), 4, 0, 1, 0, 0, 0, 1, 0, 0, 0);
        duePlay(board(0, 1, 0, 1, 3, 0, 0, 0, 1), 4, 1, 1, 0, 1, 0, 1, 0, 1, 0);
        duePlay(board(0, 1, 0, 1, 0, 2, 0, 0, 1), 5, 1, 1, 0, 1, 0, 0, 0, 1, 0);
        // Also if seeds go into the own store by a capture, or by the game's end.
        duePlay(board(1, 0, 1, 1, 1, 0, 0, 0, 0), 0, 0, 0, 1, 1, 0, 0, 2, 0, 1);
        duePlay(board(1, 0, 0, 0, 1, 0, 0, 0, 0), 0, 0, 0, 0, 0, 0, 0, 2, 0, 1);
        duePlay(board(0, 0, 1, 0, 0, 2, 0, 0, 1), 5, 0, 0, 0, 0, 0, 0, 2, 1, 0);
    }

    private static void captureFromAnEmptyHouse() {
        says("If the last one came into a house of the player's own that was empty before it");
        // One seed opposite is the fewest, four beside the one that moves and one more the most.
        duePlay(board(1, 0, 1, 1, 1, 0, 0, 0, 0), 0, 0, 0, 1, 1, 0, 0, 2, 0, 1);
        duePlay(board(1, 0, 1, 0, 4, 0, 0, 0, 0), 0, 0, 0, 0, 0, 0, 0, 6, 0, 1);
        duePlay(board(2, 0, 0, 3, 0, 1, 0, 0, 0), 0, 0, 1, 0, 0, 0, 1, 4, 0, 1);
        duePlay(board(0, 1, 1, 1, 0, 1, 0, 0, 1), 3, 0, 0, 1, 0, 0, 1, 0, 2, 0);
        duePlay(board(0, 4, 0, 1, 0, 1, 0, 0, 1), 3, 0, 0, 0, 0, 0, 0, 0, 6, 0);
        duePlay(board(3, 0, 1, 2, 0, 0, 0, 0, 1), 3, 0, 0, 1, 0, 1, 0, 0, 4, 0);
        // With full stores it is the same.
        duePlay(board(1, 0, 1, 0, 4, 0, 30, 30, 0), 0, 0, 0, 0, 0, 0, 0, 36, 30, 1);
    }

    private static void noCaptureFromAFilledHouse() {
        says("that was empty before it");
        duePlay(board(1, 1, 0, 0, 1, 0, 0, 0, 0), 0, 0, 2, 0, 0, 1, 0, 0, 0, 1);
        duePlay(board(1, 3, 0, 0, 1, 0, 0, 0, 0), 0, 0, 4, 0, 0, 1, 0, 0, 0, 1);
        duePlay(board(2, 0, 1, 1, 0, 0, 0, 0, 0), 0, 0, 1, 2, 1, 0, 0, 0, 0, 1);
        duePlay(board(0, 1, 0, 1, 1, 0, 0, 0, 1), 3, 0, 1, 0, 0, 2, 0, 0, 0, 0);
        duePlay(board(0, 1, 0, 1, 3, 0, 0, 0, 1), 3, 0, 1, 0, 0, 4, 0, 0, 0, 0);
        duePlay(board(1, 0, 0, 2, 0, 1, 0, 0, 1), 3, 1, 0, 0, 0, 1, 2, 0, 0, 0);
    }

    private static void noCaptureOutsideTheOwnHouses() {
        says("a house of the player's own");
        // Into an empty house of the other player, with seeds opposite it.
        duePlay(board(0, 1, 2, 0, 0, 1, 0, 0, 0), 2, 0, 1, 0, 1, 0, 1, 1, 0, 1);
        duePlay(board(1, 1, 3, 1, 0, 0, 0, 0, 0), 2, 1, 1, 0, 2, 1, 0, 1, 0, 1);
        duePlay(board(1, 0, 4, 1, 0, 0, 0, 0, 0), 2, 1, 0, 0, 2, 1, 1, 1, 0, 1);
        duePlay(board(0, 0, 1, 0, 1, 2, 0, 0, 1), 5, 1, 0, 1, 0, 1, 0, 0, 1, 0);
        duePlay(board(1, 0, 0, 1, 1, 3, 0, 0, 1), 5, 2, 1, 0, 1, 1, 0, 0, 1, 0);
        duePlay(board(1, 0, 0, 1, 0, 4, 0, 0, 1), 5, 2, 1, 1, 1, 0, 0, 0, 1, 0);
        // Into the own store while it is empty.
        duePlay(board(1, 0, 1, 1, 0, 1, 0, 0, 0), 2, 1, 0, 0, 1, 0, 1, 1, 0, 0);
        duePlay(board(1, 0, 1, 1, 0, 1, 0, 0, 1), 5, 1, 0, 1, 1, 0, 0, 0, 1, 1);
    }

    private static void noCaptureOfNothing() {
        says("and the opposite house is not empty");
        duePlay(board(1, 0, 0, 1, 0, 1, 0, 0, 0), 0, 0, 1, 0, 1, 0, 1, 0, 0, 1);
        duePlay(board(0, 1, 0, 0, 1, 1, 0, 0, 0), 1, 0, 0, 1, 0, 1, 1, 0, 0, 1);
        duePlay(board(1, 0, 1, 1, 0, 0, 0, 0, 1), 3, 1, 0, 1, 0, 1, 0, 0, 0, 0);
        duePlay(board(0, 1, 1, 0, 1, 0, 0, 0, 1), 4, 0, 1, 1, 0, 0, 1, 0, 0, 0);
    }

    /**
     * To come back into that house takes 7 seeds. There are never as many; six in one house leave
     * the other player empty; so the longest move has five, and its last one stops two before it.
     */
    private static void theHouseThatTheMoveBeganFrom() {
        says("(the house that the move began from counts as empty)");
        for (int h = 0; h < 6; h++) {
            due("play(" + h + ") of six", boardOfOne(h, 6, h < 3 ? 0 : 1).play(h), NONE);
            int[] all = {0, 0, 0, 0, 0, 0, 0, 0, h < 3 ? 0 : 1};
            all[h] = 5;
            all[5 - h] = 1;
            SmallKalah x = board(all);
            x.play(h);
            due("seeds(" + h + ") after the longest move from it", x.seeds(h), 0);
        }
    }

    private static void theRestGoesHome() {
        says("if all houses of player 0 or all of player 1 are empty, all seeds still in houses go"
                + " into the stores of the players whose houses they are in");
        duePlay(board(0, 0, 1, 3, 1, 1, 2, 3, 0), 2, 0, 0, 0, 0, 0, 0, 3, 8, 0);
        duePlay(board(3, 1, 1, 0, 0, 1, 2, 3, 1), 5, 0, 0, 0, 0, 0, 0, 7, 4, 1);
        // The last seeds of the one side come into houses of the other.
        duePlay(board(0, 0, 4, 0, 1, 1, 0, 0, 0), 2, 0, 0, 0, 0, 0, 0, 1, 5, 1);
        duePlay(board(1, 1, 0, 0, 0, 4, 0, 0, 1), 5, 0, 0, 0, 0, 0, 0, 5, 1, 0);
        // One seed is the least that can be left.
        duePlay(board(0, 0, 1, 0, 0, 1, 0, 0, 0), 2, 0, 0, 0, 0, 0, 0, 1, 1, 0);
        duePlay(board(0, 0, 1, 0, 0, 1, 0, 0, 1), 5, 0, 0, 0, 0, 0, 0, 1, 1, 1);
        due("over() then", played(board(0, 0, 1, 0, 0, 1, 0, 0, 1), 5).over(), true);
    }

    private static void theRestGoesHomeAfterACapture() {
        says("Then, if all houses of player 0 or all of player 1 are empty");
        // The capture takes the other's last seeds, then the own last one, then both.
        duePlay(board(1, 0, 2, 0, 1, 0, 0, 0, 0), 0, 0, 0, 0, 0, 0, 0, 4, 0, 1);
        duePlay(board(1, 0, 0, 1, 2, 2, 0, 0, 0), 0, 0, 0, 0, 0, 0, 0, 3, 3, 1);
        duePlay(board(1, 0, 0, 0, 5, 0, 0, 0, 0), 0, 0, 0, 0, 0, 0, 0, 6, 0, 1);
        duePlay(board(0, 1, 0, 1, 0, 2, 0, 0, 1), 3, 0, 0, 0, 0, 0, 0, 0, 4, 0);
        duePlay(board(2, 2, 1, 1, 0, 0, 0, 0, 1), 3, 0, 0, 0, 0, 0, 0, 3, 3, 0);
        duePlay(board(0, 5, 0, 1, 0, 0, 0, 0, 1), 3, 0, 0, 0, 0, 0, 0, 0, 6, 0);
    }

    private static void nothingGoesHomeBefore() {
        says("all seeds still in houses go into the stores");
        // One seed of the other player is enough for the game to go on.
        SmallKalah x = board(1, 1, 0, 1, 0, 0, 0, 0, 0);
        duePlay(x, 0, 0, 2, 0, 1, 0, 0, 0, 0, 1);
        due("over() with one seed left", x.over(), false);
        // What is put together by hand stays in the houses, and a move must come before the end.
        SmallKalah put = board(1, 2, 3, 0, 0, 0, 0, 0, 0);
        due("play(0) when it is over", put.play(0), NONE);
        dueBoard("on a board that is over from the start", put, 1, 2, 3, 0, 0, 0, 0, 0, 0);
    }

    private static void resultWithSeedsInHouses() {
        says("(with those still in houses added to the stores of their players)");
        for (int mover = 0; mover < 2; mover++) {
            SmallKalah first = board(1, 2, 3, 0, 0, 0, 0, 30, mover);
            due("value() with six in the houses of player 0", first.value(), -24);
            due("worst() with six in the houses of player 0", first.worst(), -24);
            SmallKalah second = board(0, 0, 0, 3, 2, 1, 30, 0, mover);
            due("value() with six in the houses of player 1", second.value(), 24);
            due("worst() with six in the houses of player 1", second.worst(), 24);
            for (int h = 0; h < 6; h++) {
                SmallKalah one = boardOfOne(h, 1, mover);
                due("value() of a seed in " + h, one.value(), h < 3 ? 1 : -1);
                due("worst() of a seed in " + h, one.worst(), h < 3 ? 1 : -1);
            }
        }
    }

    private static void valueForEitherPlayer() {
        says("The VALUE of a board is the result that comes if player 0 makes it as great and"
                + " player 1 as small as can be");
        // Player 0: from 1 the seed captures player 1's last one, 3 less 0; from 0 it joins the
        // other, and player 1 captures both. Player 1: the one move captures the seed in 1, and
        // the seed in 0 goes home: 1 less 2.
        due("value() with player 0 to move", board(1, 1, 0, 1, 0, 0, 0, 0, 0).value(), 3);
        due("value() with player 1 to move", board(1, 1, 0, 1, 0, 0, 0, 0, 1).value(), -1);
        // The same seen from the other side.
        due("value() with player 1 to choose", board(1, 0, 0, 1, 1, 0, 0, 0, 1).value(), -3);
        due("value() with player 0 next to them", board(1, 0, 0, 1, 1, 0, 0, 0, 0).value(), 1);
    }

    private static void noCallThrows() {
        says("No call ever throws");
        int[] edges = {LEAST, LEAST + 1, -4000, -2000, -1000, -31, -8, -7, -6, -1, 0, 1, 5, 6, 7,
            8, 30, 31, 255, 256, 65535, 65536, GREATEST - 1, GREATEST};
        for (Supplier<SmallKalah> state : states()) {
            for (int p : edges) {
                for (int q : edges) {
                    callAll(state.get(), p, q);
                }
            }
        }
    }

    private static void callAll(SmallKalah x, int p, int q) {
        try {
            x.seeds(p);
            x.after(p);
            x.play(p);
            answers(x);
            x.put(p, q);
            answers(x);
            x.play(q);
            x.turn(p);
            x.stores(p, q);
            answers(x);
            x.undo();
            answers(x);
        } catch (RuntimeException | Error e) {
            wrong++;
            System.out.println("\"" + sentence + "\": with " + p + " and " + q + " came " + e);
        }
    }

    private static void aRefusedCallChangesNothing() {
        says("A refused call answers the code named and changes nothing");
        // A whole game and back again, with refused calls before every move and every undo().
        SmallKalah x = board(2, 0, 0, 1, 0, 1, 3, 4, 0);
        refuseAll(x, 1, 5);
        duePlay(x, 0, 0, 1, 0, 0, 0, 1, 5, 4, 1);
        refuseAll(x, 1, 3);
        duePlay(x, 5, 0, 0, 0, 0, 0, 0, 6, 5, 1);
        refuseAll(x, 1, 5);
        due("best()", x.best(), NONE);
        due("undo() of the second", x.undo(), 5);
        dueBoard("after undo()", x, 0, 1, 0, 0, 0, 1, 5, 4, 1);
        refuseAll(x, 1, 3);
        due("undo() of the first", x.undo(), 0);
        dueBoard("after undo() again", x, 2, 0, 0, 1, 0, 1, 3, 4, 0);
        refuseAll(x, 1, 5);
        due("undo() of none", x.undo(), NONE);
        dueBoard("after undo() of none", x, 2, 0, 0, 1, 0, 1, 3, 4, 0);
    }

    /** The two houses are such that no move begins from them. */
    private static void refuseAll(SmallKalah x, int noMove, int noMoveEither) {
        due("put(6, 1)", x.put(6, 1), BAD_ARG);
        due("put(2, 7)", x.put(2, 7), BAD_ARG);
        due("stores(1, 31)", x.stores(1, 31), BAD_ARG);
        due("stores(-1, 1)", x.stores(-1, 1), BAD_ARG);
        due("turn(2)", x.turn(2), BAD_ARG);
        due("seeds(8)", x.seeds(8), BAD_ARG);
        due("play(6)", x.play(6), BAD_ARG);
        due("play(-1)", x.play(-1), BAD_ARG);
        due("after(6)", x.after(6), BAD_ARG);
        due("play(" + noMove + ")", x.play(noMove), NONE);
        due("after(" + noMove + ")", x.after(noMove), NONE);
        due("play(" + noMoveEither + ")", x.play(noMoveEither), NONE);
        due("after(" + noMoveEither + ")", x.after(noMoveEither), NONE);
        // Six are too many only beside a seed, and at the game's end there is none.
        if (x.seeds(5) > 0) {
            due("put(4, 6)", x.put(4, 6), FULL);
        }
    }

    // Promise 1

    private static void newObject() {
        says("All houses have one seed, the stores none, player 0 is to move");
        SmallKalah x = new SmallKalah();
        dueBoard("of a new object", x, 1, 1, 1, 1, 1, 1, 0, 0, 0);
        due("undo() of a new object", x.undo(), NONE);
        due("over() of a new object", x.over(), false);
        SmallKalah spoilt = board(6, 0, 0, 0, 0, 0, 30, 29, 1);
        dueBoard("of a new object after another", new SmallKalah(), 1, 1, 1, 1, 1, 1, 0, 0, 0);
        dueBoard("of the other one", spoilt, 6, 0, 0, 0, 0, 0, 30, 29, 1);
    }

    // Promise 2

    private static void putHasFromNowOn() {
        says("House h has n seeds from now on");
        for (int h = 0; h < 6; h++) {
            for (int n = 0; n <= 6; n++) {
                SmallKalah x = board(0, 0, 0, 0, 0, 0, 3, 4, 1);
                due("put(" + h + ", " + n + ")", x.put(h, n), 0);
                int[] want = {0, 0, 0, 0, 0, 0, 3, 4, 1};
                want[h] = n;
                dueBoard("after put(" + h + ", " + n + ")", x, want);
            }
        }
    }

    private static void putRefusesHouses() {
        says("h not 0 to 5 ... answers BAD_ARG");
        for (int h : NO_HOUSES) {
            for (int n : new int[] {0, 1, 6}) {
                refused("put(" + h + ", " + n + ")", BAD_ARG, x -> x.put(h, n));
            }
        }
        due("put(0, 0)", new SmallKalah().put(0, 0), 1);
        due("put(5, 0)", new SmallKalah().put(5, 0), 1);
    }

    private static void putRefusesNumbers() {
        says("or n not 0 to 6 answers BAD_ARG");
        for (int n : NO_SEEDS) {
            for (int h = 0; h < 6; h++) {
                int house = h;
                refused("put(" + h + ", " + n + ")", BAD_ARG, x -> x.put(house, n));
            }
        }
        for (int h = 0; h < 6; h++) {
            due("put(" + h + ", 0)", boardOfOne(h, 6, 0).put(h, 0), 6);
            due("put(" + h + ", 6)", boardOfOne(h, 0, 0).put(h, 6), 0);
        }
    }

    private static void putRefusesTooMany() {
        says("there would be more than 6 seeds in the houses answers FULL");
        for (int h = 0; h < 6; h++) {
            int house = h;
            // Of six seeds each way, the house's own are not counted twice.
            refused("put(" + h + ", 2) on one of six", FULL, SmallKalah::new, x -> x.put(house, 2));
            refused("put(" + h + ", 6) on one of six", FULL, SmallKalah::new, x -> x.put(house, 6));
            due("put(" + h + ", 1) on one of six", new SmallKalah().put(h, 1), 1);
            due("put(" + h + ", 6) on six", boardOfOne(h, 6, 0).put(h, 6), 6);
            due("put(" + h + ", 5) on six", boardOfOne(h, 6, 0).put(h, 5), 6);
            for (int n = 1; n <= 6; n++) {
                int there = 6 - n;
                int other = (h + 1) % 6;
                Supplier<SmallKalah> state = () -> boardOfOne(other, there, 1);
                due("put(" + h + ", " + n + ") beside " + there, state.get().put(h, n), 0);
                if (n < 6) {
                    int tooMany = n + 1;
                    refused("put(" + h + ", " + tooMany + ") beside " + there, FULL, state,
                            x -> x.put(house, tooMany));
                }
            }
        }
        // Moves are kept when it is refused, and seeds in stores are not counted.
        refused("put(1, 4) after two moves", FULL, () -> played(new SmallKalah(), 0, 3),
                x -> x.put(1, 4));
        due("put(2, 1) when a seed is in A", played(new SmallKalah(), 2).put(2, 1), 0);
    }

    private static void putTestsInOrder() {
        says("Tested in this order");
        refused("put(6, 6) on six seeds", BAD_ARG, SmallKalah::new, x -> x.put(6, 6));
        refused("put(-1, 6) on six seeds", BAD_ARG, SmallKalah::new, x -> x.put(-1, 6));
        refused("put(0, 7) on six seeds", BAD_ARG, SmallKalah::new, x -> x.put(0, 7));
        refused("put(5, 7) on six seeds", BAD_ARG, SmallKalah::new, x -> x.put(5, 7));
        refused("put(6, 7) on six seeds", BAD_ARG, SmallKalah::new, x -> x.put(6, 7));
        refused("put(0, 6) on six seeds", FULL, SmallKalah::new, x -> x.put(0, 6));
    }

    private static void putAnswersWhatWasThere() {
        says("Otherwise the number it had");
        for (int h = 0; h < 6; h++) {
            for (int had = 0; had <= 6; had++) {
                for (int n = 0; n <= 6; n++) {
                    SmallKalah x = boardOfOne(h, had, 0);
                    due("put(" + h + ", " + n + ") on " + had, x.put(h, n), had);
                    due("seeds(" + h + ") then", x.seeds(h), n);
                }
            }
        }
    }

    private static void putEndsTakingBack() {
        says("House h has n seeds from now on; moves made before can't be taken back any more");
        for (int h = 0; h < 6; h++) {
            SmallKalah x = played(new SmallKalah(), 2, 0);
            int there = x.seeds(h);
            due("put(" + h + ") of what is there", x.put(h, there), there);
            due("undo() after put(" + h + ") of what is there", x.undo(), NONE);
            dueBoard("after the refused undo()", x, 0, 2, 0, 1, 1, 1, 1, 0, 1);
        }
        SmallKalah x = played(new SmallKalah(), 2, 0);
        due("put(4, 0)", x.put(4, 0), 1);
        due("undo() after put(4, 0)", x.undo(), NONE);
        dueBoard("after the refused undo()", x, 0, 2, 0, 1, 0, 1, 1, 0, 1);
        due("play(3)", x.play(3), 0);
        due("undo() of the move after put", x.undo(), 3);
        dueBoard("after undo()", x, 0, 2, 0, 1, 0, 1, 1, 0, 1);
        due("undo() of the moves before put", x.undo(), NONE);
    }

    // Promise 3

    private static void storesHaveFromNowOn() {
        says("The stores have a and b seeds from now on ... Otherwise 0");
        int[] right = {0, 1, 15, 29, 30};
        for (int a : right) {
            for (int b : right) {
                SmallKalah x = board(0, 1, 2, 3, 0, 0, 5, 6, 1);
                due("stores(" + a + ", " + b + ")", x.stores(a, b), 0);
                dueBoard("after stores(" + a + ", " + b + ")", x, 0, 1, 2, 3, 0, 0, a, b, 1);
            }
        }
    }

    private static void storesRefuses() {
        says("BAD_ARG if a or b is not 0 to 30");
        for (int n : NO_STORES) {
            refused("stores(" + n + ", 0)", BAD_ARG, x -> x.stores(n, 0));
            refused("stores(" + n + ", 30)", BAD_ARG, x -> x.stores(n, 30));
            refused("stores(0, " + n + ")", BAD_ARG, x -> x.stores(0, n));
            refused("stores(30, " + n + ")", BAD_ARG, x -> x.stores(30, n));
            refused("stores(" + n + ", " + n + ")", BAD_ARG, x -> x.stores(n, n));
            refused("stores(" + n + ", " + -n + ")", BAD_ARG, x -> x.stores(n, -n));
        }
    }

    private static void storesEndsTakingBack() {
        says("The stores have a and b seeds from now on; moves made before can't be taken back"
                + " any more");
        SmallKalah x = played(new SmallKalah(), 2, 0);
        due("stores(1, 0) of what is there", x.stores(1, 0), 0);
        due("undo() after stores of what is there", x.undo(), NONE);
        dueBoard("after the refused undo()", x, 0, 2, 0, 1, 1, 1, 1, 0, 1);
        due("play(5)", x.play(5), 1);
        due("undo() of the move after stores", x.undo(), 5);
        due("undo() of the moves before stores", x.undo(), NONE);
        dueBoard("after undo()", x, 0, 2, 0, 1, 1, 1, 1, 0, 1);
    }

    // Promise 4

    private static void turnSetsThePlayer() {
        says("Player p is to move ... Otherwise who was to move");
        for (int was = 0; was < 2; was++) {
            for (int p = 0; p < 2; p++) {
                SmallKalah x = board(1, 0, 2, 0, 1, 1, 8, 9, was);
                due("turn(" + p + ") after " + was, x.turn(p), was);
                dueBoard("after turn(" + p + ")", x, 1, 0, 2, 0, 1, 1, 8, 9, p);
                due("turn(" + p + ") again", x.turn(p), p);
            }
        }
    }

    private static void turnRefuses() {
        says("BAD_ARG if p is not 0 or 1");
        for (int p : NO_PLAYERS) {
            refused("turn(" + p + ")", BAD_ARG, x -> x.turn(p));
        }
    }

    private static void turnEndsTakingBack() {
        says("Player p is to move; moves made before can't be taken back any more");
        for (int p = 0; p < 2; p++) {
            SmallKalah x = played(new SmallKalah(), 2, 0);
            due("turn(" + p + ")", x.turn(p), 1);
            due("undo() after turn(" + p + ")", x.undo(), NONE);
            dueBoard("after the refused undo()", x, 0, 2, 0, 1, 1, 1, 1, 0, p);
            int h = p == 0 ? 1 : 5;
            x.play(h);
            due("undo() of the move after turn", x.undo(), h);
            due("undo() of the moves before turn", x.undo(), NONE);
        }
    }

    // Promises 5 to 7

    private static void seedsOfEachPlace() {
        says("The number of seeds in house h, or in store A (h = 6) or B (h = 7)");
        for (int h = 0; h < 6; h++) {
            int[] all = {0, 0, 0, 0, 0, 0, 30, 29, 0};
            all[h] = 6;
            dueBoard("with six in " + h, board(all), all);
        }
        changesNothing("seeds(7)", x -> x.seeds(7));
        int[] nothing = {0, 0, 0, 0, 0, 0, 0, 0, 1};
        dueBoard("with nothing at all", board(nothing), nothing);
        // The range of stores() binds its arguments, not what moves bring into a store.
        duePlay(board(0, 0, 1, 3, 1, 1, 30, 30, 0), 2, 0, 0, 0, 0, 0, 0, 31, 35, 0);
    }

    private static void seedsRefuses() {
        says("BAD_ARG if h is not 0 to 7");
        for (int h : NO_PLACES) {
            refused("seeds(" + h + ")", BAD_ARG, x -> x.seeds(h));
        }
    }

    private static void toMoveAfterRefusals() {
        says("Who is to move");
        for (int p = 0; p < 2; p++) {
            SmallKalah x = board(1, 1, 1, 1, 1, 1, 0, 0, p);
            x.turn(2);
            x.turn(-1);
            x.play(6);
            x.play(p == 0 ? 3 : 2);
            x.undo();
            due("toMove() after refused calls", x.toMove(), p);
            due("toMove() of a game that is over", board(0, 0, 0, 0, 0, 1, 0, 0, p).toMove(), p);
        }
        changesNothing("toMove()", SmallKalah::toMove);
    }

    private static void overOfBoardsPutTogether() {
        says("Whether the game is over");
        SmallKalah x = played(board(0, 0, 1, 1, 0, 0, 0, 0, 0), 2);
        due("over() after the last move", x.over(), true);
        x.put(0, 1);
        due("over() with a seed of player 0 put in", x.over(), true);
        x.put(5, 1);
        due("over() with a seed of each put in", x.over(), false);
        x.put(0, 0);
        due("over() with the one taken out", x.over(), true);
        SmallKalah back = played(board(0, 0, 1, 1, 0, 0, 0, 0, 0), 2);
        back.undo();
        due("over() after the last move is taken back", back.over(), false);
        changesNothing("over()", y -> y.over() ? 1 : 0);
    }

    // Promise 8

    private static void playRefusesHouses() {
        says("The move from house h. BAD_ARG if h is not 0 to 5");
        for (int h : NO_HOUSES) {
            refused("play(" + h + ")", BAD_ARG, x -> x.play(h));
        }
        due("play(0)", new SmallKalah().play(0), 1);
        due("play(5)", board(1, 1, 1, 1, 1, 1, 0, 0, 1).play(5), 1);
    }

    private static void playRefusesWhatIsNoMove() {
        says("The move from house h ... NONE if it is no move");
        // Once with moves that could be lost, once on an empty board, once at a game's end. After
        // the three moves player 1 is to move and has a seed in 4 alone.
        for (int h : new int[] {0, 1, 2, 3, 5}) {
            refused("play(" + h + ") after three moves", NONE,
                    () -> played(new SmallKalah(), 2, 1, 5), x -> x.play(h));
        }
        for (int h = 0; h < 6; h++) {
            int house = h;
            for (int mover = 0; mover < 2; mover++) {
                int player = mover;
                refused("play(" + h + ") on an empty board", NONE,
                        () -> board(0, 0, 0, 0, 0, 0, 1, 2, player), x -> x.play(house));
            }
            refused("play(" + h + ") at a game's end", NONE,
                    () -> played(board(1, 0, 2, 0, 1, 0, 10, 20, 0), 0), x -> x.play(house));
        }
    }

    private static void playAnswersWhoIsNext() {
        says("Otherwise who is to move next");
        due("play(2) of player 0 into A", new SmallKalah().play(2), 0);
        due("play(1) of player 0", new SmallKalah().play(1), 1);
        due("play(5) of player 1 into B", board(1, 1, 1, 1, 1, 1, 0, 0, 1).play(5), 1);
        due("play(4) of player 1", board(1, 1, 1, 1, 1, 1, 0, 0, 1).play(4), 0);
    }

    // Promise 9

    private static void undoOfNone() {
        says("Takes the last move back. NONE if there is none");
        refused("undo() of a new object", NONE, SmallKalah::new, SmallKalah::undo);
        refused("undo() of a board put together", NONE, () -> board(0, 2, 1, 1, 0, 1, 7, 8, 1),
                SmallKalah::undo);
        refused("undo() after refused moves", NONE,
                () -> played(new SmallKalah(), 3, 4, 5, 6, -1), SmallKalah::undo);
        refused("undo() after all are taken back", NONE, () -> {
            SmallKalah x = played(new SmallKalah(), 2, 0);
            x.undo();
            x.undo();
            return x;
        }, SmallKalah::undo);
        // A refused undo() is no debt: the next move can be taken back.
        SmallKalah x = new SmallKalah();
        for (int i = 0; i < 30; i++) {
            due("undo() of none", x.undo(), NONE);
        }
        due("play(1)", x.play(1), 1);
        due("undo() of it", x.undo(), 1);
        due("undo() of none", x.undo(), NONE);
    }

    private static void undoAnswersTheHouse() {
        says("Otherwise the house that it began from");
        for (int h = 0; h < 6; h++) {
            int mover = h < 3 ? 0 : 1;
            SmallKalah x = board(1, 1, 1, 1, 1, 1, 30, 30, mover);
            x.play(h);
            due("undo() of play(" + h + ")", x.undo(), h);
            dueBoard("after undo()", x, 1, 1, 1, 1, 1, 1, 30, 30, mover);
            due("undo() of none", x.undo(), NONE);
        }
    }

    /**
     * Twenty moves without a put, stores or turn between them don't come about: no game of six
     * seeds has more than these eleven moves. So all moves that there are can be taken back.
     */
    private static void undoOfTheLongestGame() {
        says("(The last 20 moves can be taken back.)");
        int[] houses = {1, 3, 2, 4, 3, 0, 5, 4, 2, 1, 5};
        int[][] boards = {
            {2, 1, 2, 1, 0, 0, 0, 0, 0}, {2, 0, 3, 1, 0, 0, 0, 0, 1}, {2, 0, 3, 0, 1, 0, 0, 0, 0},
            {2, 0, 0, 1, 2, 0, 1, 0, 1}, {2, 0, 0, 1, 0, 1, 1, 1, 1}, {2, 0, 0, 0, 1, 1, 1, 1, 0},
            {0, 1, 1, 0, 1, 1, 1, 1, 1}, {0, 1, 1, 0, 1, 0, 1, 2, 1}, {0, 1, 1, 0, 0, 1, 1, 2, 0},
            {0, 1, 0, 0, 0, 1, 2, 2, 0}, {0, 0, 1, 0, 0, 1, 2, 2, 1}, {0, 0, 0, 0, 0, 0, 3, 3, 1}};
        SmallKalah x = board(boards[0]);
        // Twice, so that the second game is kept where the first one was.
        for (int game = 0; game < 2; game++) {
            for (int i = 0; i < houses.length; i++) {
                duePlay(x, houses[i], boards[i + 1]);
            }
            due("over() at the end", x.over(), true);
            for (int i = houses.length - 1; i >= 0; i--) {
                due("undo() of move " + i, x.undo(), houses[i]);
                dueBoard("after undo() of move " + i, x, boards[i]);
            }
            due("undo() once too often", x.undo(), NONE);
            dueBoard("after undo() once too often", x, boards[0]);
        }
    }

    private static void undoOfTheLastMoveOfAGame() {
        says("Takes the last move back");
        // A move that captures and ends the game comes back whole, seeds, stores and player.
        SmallKalah x = board(1, 0, 2, 0, 1, 0, 10, 20, 0);
        duePlay(x, 0, 0, 0, 0, 0, 0, 0, 14, 20, 1);
        due("undo()", x.undo(), 0);
        dueBoard("after undo()", x, 1, 0, 2, 0, 1, 0, 10, 20, 0);
        due("undo() of none", x.undo(), NONE);
        x = board(0, 0, 1, 0, 0, 5, 30, 30, 1);
        duePlay(x, 5, 0, 0, 0, 0, 0, 0, 32, 34, 0);
        due("undo()", x.undo(), 5);
        dueBoard("after undo()", x, 0, 0, 1, 0, 0, 5, 30, 30, 1);
    }

    // Promises 10 to 15

    private static void valueAtTheEdges() {
        says("The value of the board");
        for (int mover = 0; mover < 2; mover++) {
            due("value() of nothing", board(0, 0, 0, 0, 0, 0, 0, 0, mover).value(), 0);
            due("value() of A full", board(0, 0, 0, 0, 0, 0, 30, 0, mover).value(), 30);
            due("value() of B full", board(0, 0, 0, 0, 0, 0, 0, 30, mover).value(), -30);
            due("value() of the most for A", board(0, 0, 6, 0, 0, 0, 30, 0, mover).value(), 36);
            due("value() of the most for B", board(0, 0, 0, 6, 0, 0, 0, 30, mover).value(), -36);
        }
        due("value() of a capture of all", board(1, 0, 0, 0, 5, 0, 30, 0, 0).value(), 36);
        due("value() of a capture of all", board(0, 5, 0, 1, 0, 0, 0, 30, 1).value(), -36);
        changesNothing("value()", SmallKalah::value);
    }

    private static void afterAtTheEdges() {
        says("The value of the board after the move from house h");
        // Each of these moves ends the game.
        due("after(2) into A", board(0, 0, 1, 3, 1, 1, 30, 30, 0).after(2), -4);
        due("after(5) into B", board(3, 1, 1, 0, 0, 1, 30, 30, 1).after(5), 4);
        due("after(0) that captures all", board(1, 0, 0, 0, 5, 0, 30, 0, 0).after(0), 36);
        due("after(3) that captures all", board(0, 5, 0, 1, 0, 0, 0, 30, 1).after(3), -36);
        due("after(2) round past B", board(0, 0, 5, 0, 0, 1, 0, 0, 0).after(2), 2);
        due("after(5) round past A", board(0, 0, 1, 0, 0, 5, 0, 0, 1).after(5), -2);
        // After the move into A player 0 is to move still, and captures from 0 the last seed.
        due("after(2) with a move more", board(1, 0, 1, 0, 1, 0, 0, 0, 0).after(2), 3);
        due("after(5) with a move more", board(0, 1, 0, 1, 0, 1, 0, 0, 1).after(5), -3);
        // After the move player 0 chooses for themselves: 4 less 0, as in valueForEitherPlayer().
        due("after(2) with a choice more", board(1, 1, 1, 1, 0, 0, 0, 0, 0).after(2), 4);
        due("after(5) with a choice more", board(1, 0, 0, 1, 1, 1, 0, 0, 1).after(5), -4);
        changesNothing("after(4)", x -> x.after(4));
    }

    private static void afterRefusesHouses() {
        says("The value of the board after the move from house h; BAD_ARG if h is not 0 to 5");
        for (int h : NO_HOUSES) {
            refused("after(" + h + ")", BAD_ARG, x -> x.after(h));
        }
        due("after(0) is a move", new SmallKalah().after(0) != BAD_ARG, true);
        due("after(5) is no move", new SmallKalah().after(5), NONE);
    }

    private static void afterRefusesWhatIsNoMove() {
        says("The value of the board after the move from house h ... NONE if it is no move");
        for (int h = 0; h < 6; h++) {
            int house = h;
            int own = h < 3 ? 0 : 1;
            refused("after(" + h + ") of the other player", NONE,
                    () -> board(1, 1, 1, 1, 1, 1, 0, 0, 1 - own), x -> x.after(house));
            int[] all = {1, 1, 1, 1, 1, 1, 0, 0, own};
            all[h] = 0;
            refused("after(" + h + ") of an empty house", NONE, () -> board(all),
                    x -> x.after(house));
            refused("after(" + h + ") of six when it is over", NONE,
                    () -> boardOfOne(house, 6, own), x -> x.after(house));
            refused("after(" + h + ") on an empty board", NONE,
                    () -> board(0, 0, 0, 0, 0, 0, 0, 0, own), x -> x.after(house));
            refused("after(" + h + ") at a game's end", NONE,
                    () -> played(board(1, 0, 2, 0, 1, 0, 10, 20, 0), 0), x -> x.after(house));
        }
    }

    private static void bestIsTheLeast() {
        says("The least house of those whose move leads to a board of the same value as this one");
        for (int h = 0; h < 6; h++) {
            int[] all = {0, 0, 0, 0, 0, 0, 0, 0, h < 3 ? 0 : 1};
            all[h] = 1;
            all[h < 3 ? 3 : 0] = 1;
            due("best() of the one move from " + h, board(all).best(), h);
        }
        // Both moves come to 3 less 0: the capture first, or the seed into A and then the capture.
        due("best() of two as good", board(1, 0, 1, 0, 1, 0, 0, 0, 0).best(), 0);
        due("best() of two as good of player 1", board(0, 1, 0, 1, 0, 1, 0, 0, 1).best(), 3);
        due("best() that is not the least house", board(1, 1, 0, 1, 0, 0, 0, 0, 0).best(), 1);
        due("best() that is not player 1's least", board(1, 0, 0, 1, 1, 0, 0, 0, 1).best(), 4);
        // Stores that lie far apart change no move.
        due("best() with A full", board(1, 1, 0, 1, 0, 0, 30, 0, 0).best(), 1);
        due("best() with B full", board(1, 1, 0, 1, 0, 0, 0, 30, 0).best(), 1);
        changesNothing("best()", SmallKalah::best);
    }

    private static void bestWhenOver() {
        says("NONE if the game is over");
        for (int mover = 0; mover < 2; mover++) {
            int player = mover;
            refused("best() on an empty board", NONE,
                    () -> board(0, 0, 0, 0, 0, 0, 1, 2, player), SmallKalah::best);
            for (int h = 0; h < 6; h++) {
                int house = h;
                refused("best() with seeds in " + h + " alone", NONE,
                        () -> boardOfOne(house, 6, player), SmallKalah::best);
            }
        }
        refused("best() at a game's end", NONE,
                () -> played(board(1, 0, 2, 0, 1, 0, 10, 20, 0), 0), SmallKalah::best);
    }

    private static void movesFromNoneToThree() {
        says("How many moves there are");
        due("moves() of three", new SmallKalah().moves(), 3);
        due("moves() of three of player 1", board(1, 1, 1, 1, 1, 1, 0, 0, 1).moves(), 3);
        due("moves() of one beside three", board(0, 1, 0, 1, 1, 1, 0, 0, 0).moves(), 1);
        due("moves() of three beside one", board(0, 1, 0, 1, 1, 1, 0, 0, 1).moves(), 3);
        due("moves() of two beside one", board(1, 0, 1, 0, 1, 0, 0, 0, 0).moves(), 2);
        for (int mover = 0; mover < 2; mover++) {
            due("moves() of nothing", board(0, 0, 0, 0, 0, 0, 30, 30, mover).moves(), 0);
            due("moves() with player 0 empty", board(0, 0, 0, 2, 2, 2, 0, 0, mover).moves(), 0);
            due("moves() with player 1 empty", board(2, 2, 2, 0, 0, 0, 0, 0, mover).moves(), 0);
        }
        due("moves() at a game's end", played(board(0, 0, 1, 3, 1, 1, 0, 0, 0), 2).moves(), 0);
        changesNothing("moves()", SmallKalah::moves);
    }

    private static void lengthAtTheEdges() {
        says("How many moves are made if both players always make the move from best()");
        due("length() of one move", board(0, 0, 1, 0, 0, 1, 0, 0, 0).length(), 1);
        due("length() of one move of player 1", board(0, 0, 1, 0, 0, 1, 0, 0, 1).length(), 1);
        // The capture from 0 ends the game; the move into A would be one more.
        due("length() of the least house", board(1, 0, 1, 0, 1, 0, 0, 0, 0).length(), 1);
        due("length() of the least house", board(0, 1, 0, 1, 0, 1, 0, 0, 1).length(), 1);
        // The seed in 1 goes to 2, player 1's last one into B.
        due("length() of two moves", board(0, 1, 0, 0, 0, 1, 0, 0, 0).length(), 2);
        due("length() with player 1 to move", board(0, 1, 0, 0, 0, 1, 0, 0, 1).length(), 1);
        due("length() of two moves", board(0, 0, 1, 0, 1, 0, 0, 0, 1).length(), 2);
        due("length() with player 0 to move", board(0, 0, 1, 0, 1, 0, 0, 0, 0).length(), 1);
        changesNothing("length()", SmallKalah::length);
    }

    private static void lengthWhenOver() {
        says("0 if the game is over");
        for (int mover = 0; mover < 2; mover++) {
            due("length() of nothing", board(0, 0, 0, 0, 0, 0, 30, 30, mover).length(), 0);
            due("length() with player 0 empty", board(0, 0, 0, 2, 2, 2, 0, 0, mover).length(), 0);
            due("length() with player 1 empty", board(2, 2, 2, 0, 0, 0, 0, 0, mover).length(), 0);
        }
        due("length() at a game's end", played(board(0, 0, 1, 3, 1, 1, 0, 0, 0), 2).length(), 0);
    }

    private static void worstAtTheEdges() {
        says("The least result that can come of the board whatever player 0 wants");
        for (int mover = 0; mover < 2; mover++) {
            due("worst() of nothing", board(0, 0, 0, 0, 0, 0, 0, 0, mover).worst(), 0);
            due("worst() of A full", board(0, 0, 0, 0, 0, 0, 30, 0, mover).worst(), 30);
            due("worst() of B full", board(0, 0, 0, 0, 0, 0, 0, 30, mover).worst(), -30);
        }
        // The one move captures all; no player 0 can do worse.
        due("worst() of one move", board(1, 0, 0, 0, 5, 0, 30, 0, 0).worst(), 36);
        // Player 0 moves for player 1: not the capture from 1, but the seed from 0 to be captured.
        due("worst() with player 0 to move", board(1, 1, 0, 1, 0, 0, 0, 0, 0).worst(), -3);
        due("worst() with player 1 to move", board(1, 0, 0, 1, 1, 0, 0, 0, 1).worst(), -3);
        // Player 1's one move brings the seed to 4. Then player 0 could capture it from 0 and have
        // all; but moves from 2, and player 1 captures the seed in 0 from 4: 1 less 3.
        due("worst() of a later move", board(1, 0, 2, 1, 0, 0, 0, 0, 1).worst(), -2);
        due("value() beside it", board(1, 0, 2, 1, 0, 0, 0, 0, 1).value(), 4);
        changesNothing("worst()", SmallKalah::worst);
    }

    // Promise 16

    private static void badArgBeforeNone() {
        says("play, after: BAD_ARG is tested before NONE");
        List<Supplier<SmallKalah>> without = new ArrayList<>();
        without.add(() -> board(0, 0, 0, 0, 0, 0, 0, 0, 0));
        without.add(() -> board(0, 0, 0, 0, 0, 0, 0, 0, 1));
        without.add(() -> board(1, 2, 3, 0, 0, 0, 0, 0, 0));
        without.add(() -> board(0, 0, 0, 3, 2, 1, 0, 0, 1));
        without.add(() -> played(board(1, 0, 2, 0, 1, 0, 10, 20, 0), 0));
        for (Supplier<SmallKalah> state : without) {
            due("moves() where no house has one", state.get().moves(), 0);
            for (int h : NO_HOUSES) {
                refused("play(" + h + ") without moves", BAD_ARG, state, x -> x.play(h));
                refused("after(" + h + ") without moves", BAD_ARG, state, x -> x.after(h));
            }
            for (int h = 0; h < 6; h++) {
                int house = h;
                refused("play(" + h + ") without moves", NONE, state, x -> x.play(house));
                refused("after(" + h + ") without moves", NONE, state, x -> x.after(house));
            }
        }
    }
}
