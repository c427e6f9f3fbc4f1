import java.util.ArrayDeque;
import java.util.ArrayList;
import java.util.Arrays;
import java.util.Deque;
import java.util.HashMap;
import java.util.List;
import java.util.Map;

/**
 * Compares SmallKalah with a second program of the document, written in another way: the ring of
 * eight places as the document tells it, and plain recursion. It goes through every layout with
 * either player to move, and then through long mixed runs of calls.
 */
public final class AgainstPlainGame {
    private static final int CALLS_OF_ONE_OBJECT = 512;
    private static final int RUNS = 400;

    // Fewer than the 20 that can be taken back, so that limit is never reached.
    private static final int MOST_MOVES = 11;
    private static int wrong = 0;

    public static void main(String[] args) {
        everyLayout();
        longestGame();
        mixedRuns();
        System.out.println(wrong == 0 ? "all answers are as due" : wrong + " answers are not as due");
        if (wrong != 0) {
            System.exit(1);
        }
    }

    /** A board of the plain game; the ring is 0, 1, 2, A, 3, 4, 5, B. */
    private record Plain(List<Integer> ring, int mover) {
        private static final Map<Plain, Integer> VALUES = new HashMap<>();
        private static final Map<Plain, Integer> WORSTS = new HashMap<>();
        private static final Map<Plain, Integer> LONGEST = new HashMap<>();

        static Plain of(int[] houses, int a, int b, int mover) {
            return new Plain(List.of(houses[0], houses[1], houses[2], a,
                    houses[3], houses[4], houses[5], b), mover);
        }

        static int slot(int place) {
            return place == 6 ? 3 : place == 7 ? 7 : place < 3 ? place : place + 1;
        }

        int at(int place) {
            return ring.get(slot(place));
        }

        Plain with(int place, int seeds) {
            List<Integer> changed = new ArrayList<>(ring);
            changed.set(slot(place), seeds);
            return new Plain(List.copyOf(changed), mover);
        }

        int inHouses() {
            return side(0) + side(1);
        }

        int side(int player) {
            return player == 0 ? ring.get(0) + ring.get(1) + ring.get(2)
                    : ring.get(4) + ring.get(5) + ring.get(6);
        }

        boolean over() {
            return side(0) == 0 || side(1) == 0;
        }

        int result() {
            return at(6) + side(0) - at(7) - side(1);
        }

        List<Integer> moves() {
            List<Integer> found = new ArrayList<>();
            for (int h = 3 * mover; h < 3 * mover + 3 && !over(); h++) {
                if (at(h) > 0) {
                    found.add(h);
                }
            }
            return found;
        }

        Plain after(int house) {
            int[] pits = ring.stream().mapToInt(Integer::intValue).toArray();
            int own = mover == 0 ? 3 : 7;
            int other = 10 - own;
            int pos = slot(house);
            int hand = pits[pos];
            pits[pos] = 0;
            boolean wasEmpty = false;
            while (hand > 0) {
                pos = (pos + 1) % 8;
                if (pos != other) {
                    wasEmpty = pits[pos] == 0;
                    pits[pos]++;
                    hand--;
                }
            }
            boolean ownHouse = pos != own && (mover == 0 ? pos < 3 : pos > 3);
            if (ownHouse && wasEmpty && pits[6 - pos] > 0) {
                pits[own] += pits[pos] + pits[6 - pos];
                pits[pos] = 0;
                pits[6 - pos] = 0;
            }
            int first = pits[0] + pits[1] + pits[2];
            int second = pits[4] + pits[5] + pits[6];
            if (first == 0 || second == 0) {
                pits = new int[] {0, 0, 0, pits[3] + first, 0, 0, 0, pits[7] + second};
            }
            return new Plain(Arrays.stream(pits).boxed().toList(), pos == own ? mover : 1 - mover);
        }

        int value() {
            if (over()) {
                return result();
            }
            Integer known = VALUES.get(this);
            if (known == null) {
                List<Integer> all = moves().stream().map(h -> after(h).value()).sorted().toList();
                known = mover == 0 ? all.get(all.size() - 1) : all.get(0);
                VALUES.put(this, known);
            }
            return known;
        }

        int worst() {
            if (over()) {
                return result();
            }
            Integer known = WORSTS.get(this);
            if (known == null) {
                known = moves().stream().mapToInt(h -> after(h).worst()).min().getAsInt();
                WORSTS.put(this, known);
            }
            return known;
        }

        int best() {
            return moves().stream().filter(h -> after(h).value() == value())
                    .findFirst().orElse(SmallKalah.NONE);
        }

        int length() {
            return over() ? 0 : 1 + after(best()).length();
        }

        int longest() {
            Integer known = LONGEST.get(this);
            if (known == null) {
                known = moves().stream().mapToInt(h -> 1 + after(h).longest()).max().orElse(0);
                LONGEST.put(this, known);
            }
            return known;
        }
    }

    private static void due(String call, long got, long want) {
        if (got != want) {
            wrong++;
            System.out.println(call + " answered " + got + ", due is " + want);
        }
    }

    private static List<int[]> layouts() {
        List<int[]> all = new ArrayList<>();
        for (int code = 0; code < 7 * 7 * 7 * 7 * 7 * 7; code++) {
            int[] houses = new int[6];
            int rest = code;
            for (int h = 0; h < 6; h++) {
                houses[h] = rest % 7;
                rest /= 7;
            }
            if (Arrays.stream(houses).sum() <= 6) {
                all.add(houses);
            }
        }
        return all;
    }

    private static SmallKalah setUp(int[] houses, int a, int b, int mover) {
        SmallKalah x = new SmallKalah();
        for (int h = 0; h < 6; h++) {
            x.put(h, 0);
        }
        for (int h = 0; h < 6; h++) {
            x.put(h, houses[h]);
        }
        x.stores(a, b);
        x.turn(mover);
        return x;
    }

    private static void everyLayout() {
        int count = 0;
        for (int[] houses : layouts()) {
            int a = count % 31;
            int b = 30 - count / 31 % 31;
            for (int mover = 0; mover < 2; mover++) {
                SmallKalah x = setUp(houses, a, b, mover);
                Plain plain = Plain.of(houses, a, b, mover);
                String name = Arrays.toString(houses) + " " + a + " " + b + ", to move " + mover + ": ";
                sameAnswers(name, x, plain);
                for (int h = 0; h < 6; h++) {
                    sameMove(name, x, plain, h);
                }
            }
            count++;
        }
        due("the number of layouts", count, 924);
    }

    private static void sameMove(String name, SmallKalah x, Plain plain, int h) {
        if (!plain.moves().contains(h)) {
            due(name + "play(" + h + ")", x.play(h), SmallKalah.NONE);
            due(name + "undo()", x.undo(), SmallKalah.NONE);
            sameBoard(name, x, plain);
            return;
        }
        Plain next = plain.after(h);
        due(name + "play(" + h + ")", x.play(h), next.mover());
        sameBoard(name + "play(" + h + "), ", x, next);
        due(name + "value()", x.value(), next.value());
        due(name + "undo()", x.undo(), h);
        sameBoard(name + "undo(), ", x, plain);
        due(name + "undo()", x.undo(), SmallKalah.NONE);
    }

    private static void sameBoard(String name, SmallKalah x, Plain plain) {
        for (int place = 0; place < 8; place++) {
            due(name + "seeds(" + place + ")", x.seeds(place), plain.at(place));
        }
        due(name + "toMove()", x.toMove(), plain.mover());
    }

    private static void sameAnswers(String name, SmallKalah x, Plain plain) {
        sameBoard(name, x, plain);
        due(name + "over()", x.over() ? 1 : 0, plain.over() ? 1 : 0);
        due(name + "value()", x.value(), plain.value());
        due(name + "best()", x.best(), plain.best());
        due(name + "moves()", x.moves(), plain.moves().size());
        due(name + "length()", x.length(), plain.length());
        due(name + "worst()", x.worst(), plain.worst());
        for (int h = 0; h < 6; h++) {
            due(name + "after(" + h + ")", x.after(h), dueAfter(plain, h));
        }
        sameBoard(name + "after the questions, ", x, plain);
    }

    private static int dueAfter(Plain plain, int h) {
        if (h < 0 || h > 5) {
            return SmallKalah.BAD_ARG;
        }
        return plain.moves().contains(h) ? plain.after(h).value() : SmallKalah.NONE;
    }

    /** Plays a game of the most moves that there is and takes back as much of it as can be. */
    private static void longestGame() {
        int[] start = null;
        int mover = 0;
        int most = -1;
        for (int[] houses : layouts()) {
            for (int p = 0; p < 2; p++) {
                int moves = Plain.of(houses, 0, 0, p).longest();
                if (moves > most) {
                    most = moves;
                    start = houses;
                    mover = p;
                }
            }
        }
        due("the moves of the longest game", most, MOST_MOVES);
        SmallKalah x = setUp(start, 0, 0, mover);
        Plain plain = Plain.of(start, 0, 0, mover);
        Deque<Plain> boards = new ArrayDeque<>();
        Deque<Integer> houses = new ArrayDeque<>();
        while (!plain.over()) {
            for (int h : plain.moves()) {
                if (plain.longest() == 1 + plain.after(h).longest()) {
                    boards.push(plain);
                    houses.push(h);
                    plain = plain.after(h);
                    due("longest game, play(" + h + ")", x.play(h), plain.mover());
                    break;
                }
            }
        }
        for (int back = 0; back < 20 && !boards.isEmpty(); back++) {
            due("longest game, undo()", x.undo(), houses.pop());
            plain = boards.pop();
            sameBoard("longest game, undo(), ", x, plain);
        }
        due("longest game, undo() once too often", x.undo(), SmallKalah.NONE);
        sameBoard("longest game, refused undo(), ", x, plain);
    }

    private static void mixedRuns() {
        for (int run = 0; run < RUNS; run++) {
            new MixedRun(run).go();
        }
    }

    /** One object and its plain game, driven by numbers that are the same each time. */
    private static final class MixedRun {
        private final int run;
        private final SmallKalah x = new SmallKalah();
        private Plain plain = Plain.of(new int[] {1, 1, 1, 1, 1, 1}, 0, 0, 0);
        private final Deque<Plain> boards = new ArrayDeque<>();
        private final Deque<Integer> houses = new ArrayDeque<>();
        private long seed;

        MixedRun(int run) {
            this.run = run;
            this.seed = run * 7919L + 17;
        }

        int pick(int bound) {
            seed = seed * 6364136223846793005L + 1442695040888963407L;
            return (int) ((seed >>> 33) % bound);
        }

        void go() {
            for (int call = 0; call < CALLS_OF_ONE_OBJECT; call++) {
                change("run " + run + ", call " + call + ": ");
            }
        }

        void change(String name) {
            int what = pick(24);
            if (what < 3) {
                put(name, pick(8) - 1, pick(9) - 1);
            } else if (what == 3) {
                stores(name, pick(33) - 1, pick(33) - 1);
            } else if (what == 4) {
                turn(name, pick(4) - 1);
            } else if (what < 11) {
                play(name, pick(8) - 1);
            } else if (what < 14) {
                undo(name);
            } else {
                ask(name, what);
            }
        }

        void forget() {
            boards.clear();
            houses.clear();
        }

        void put(String name, int h, int n) {
            int want;
            if (h < 0 || h > 5 || n < 0 || n > 6) {
                want = SmallKalah.BAD_ARG;
            } else if (plain.inHouses() - plain.at(h) + n > 6) {
                want = SmallKalah.FULL;
            } else {
                want = plain.at(h);
                plain = plain.with(h, n);
                forget();
            }
            due(name + "put(" + h + ", " + n + ")", x.put(h, n), want);
        }

        void stores(String name, int a, int b) {
            int want = SmallKalah.BAD_ARG;
            if (a >= 0 && a <= 30 && b >= 0 && b <= 30) {
                want = 0;
                plain = plain.with(6, a).with(7, b);
                forget();
            }
            due(name + "stores(" + a + ", " + b + ")", x.stores(a, b), want);
        }

        void turn(String name, int p) {
            int want = SmallKalah.BAD_ARG;
            if (p == 0 || p == 1) {
                want = plain.mover();
                plain = new Plain(plain.ring(), p);
                forget();
            }
            due(name + "turn(" + p + ")", x.turn(p), want);
        }

        void play(String name, int h) {
            int want = h < 0 || h > 5 ? SmallKalah.BAD_ARG : SmallKalah.NONE;
            if (plain.moves().contains(h)) {
                boards.push(plain);
                houses.push(h);
                if (boards.size() > 20) {
                    boards.removeLast();
                    houses.removeLast();
                }
                plain = plain.after(h);
                want = plain.mover();
            }
            due(name + "play(" + h + ")", x.play(h), want);
        }

        void undo(String name) {
            int want = SmallKalah.NONE;
            if (!boards.isEmpty()) {
                plain = boards.pop();
                want = houses.pop();
            }
            due(name + "undo()", x.undo(), want);
        }

        void ask(String name, int what) {
            int h = pick(10) - 1;
            switch (what) {
                case 14 -> due(name + "toMove()", x.toMove(), plain.mover());
                case 15 -> due(name + "over()", x.over() ? 1 : 0, plain.over() ? 1 : 0);
                case 16 -> due(name + "value()", x.value(), plain.value());
                case 17 -> due(name + "after(" + h + ")", x.after(h), dueAfter(plain, h));
                case 18 -> due(name + "best()", x.best(), plain.best());
                case 19 -> due(name + "moves()", x.moves(), plain.moves().size());
                case 20 -> due(name + "length()", x.length(), plain.length());
                case 21 -> due(name + "worst()", x.worst(), plain.worst());
                default -> due(name + "seeds(" + h + ")", x.seeds(h),
                        h < 0 || h > 7 ? SmallKalah.BAD_ARG : plain.at(h));
            }
        }
    }
}
