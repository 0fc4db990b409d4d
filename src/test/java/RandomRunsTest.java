import java.util.Random;

/** Random runs of calls, each answer compared with that of SlowDice; the same runs every time. */
public final class RandomRunsTest {
    private static final int RUNS = 600;
    // behind these come at most 9 calls of the last step, and some 200 that look at all; more than 512 are not promised
    private static final int CALLS = 290;
    private static final int[] ODD = {Integer.MIN_VALUE, Integer.MAX_VALUE, -1, -2, -100, 6, 7, 9, 10, 13, 100, 1000};

    private final Random random;
    private final ObedientDice fast = new ObedientDice();
    private final SlowDice slow = new SlowDice();
    private final int mostPoints;
    private final boolean heavy;

    private RandomRunsTest(int seed) {
        random = new Random(seed);
        mostPoints = new int[] {1, 2, 4, 9}[seed % 4];
        heavy = seed % 3 == 0;
    }

    private int below(int bound) {
        return random.nextInt(bound);
    }

    /** Mostly in the range, at times beside it, now and then far off. */
    private int about(int from, int to) {
        int kind = below(40);
        if (kind == 0) {
            return ODD[below(ODD.length)];
        }
        if (kind == 1) {
            return from - 1;
        }
        if (kind == 2) {
            return to + 1;
        }
        return from + below(to - from + 1);
    }

    private int row() {
        return about(0, 1);
    }

    private int column() {
        return about(0, slow.count(0) - 1);
    }

    private int number() {
        return about(0, Math.max(0, slow.count(6) - 1));
    }

    private void change() {
        switch (below(heavy ? 14 : 9)) {
            case 0: {
                int columns = about(2, 3);
                Due.is("begin(" + columns + ")", fast.begin(columns), slow.begin(columns));
                break;
            }
            case 1: {
                int row = row(), column = column(), weight = below(3) == 0 ? about(0, 999) : about(0, 5);
                Due.is("weigh", fast.weigh(row, column, weight), slow.weigh(row, column, weight));
                break;
            }
            case 2: {
                int number = number();
                Due.is("take", fast.take(number), slow.take(number));
                break;
            }
            case 3: {
                int number = number(), times = about(0, 9), other = about(0, 9);
                Due.is("mix", fast.mix(number, times, other), slow.mix(number, times, other));
                break;
            }
            case 4: {
                int many = about(1, 100);
                Due.is("roll(" + many + ")", fast.roll(many), slow.roll(many));
                break;
            }
            case 5: {
                int seed = below(8) == 0 ? -below(Integer.MAX_VALUE) : below(Integer.MAX_VALUE);
                if (below(3) == 0) {
                    Due.is("forget", fast.forget(seed), slow.forget(seed));
                }
                break;
            }
            case 6:
                readGame();
                break;
            default: {
                int player = about(0, 1), row = row(), column = column(), points = about(-mostPoints, mostPoints);
                Due.is("points", fast.points(player, row, column, points), slow.points(player, row, column, points));
            }
        }
    }

    private void put(long characters) {
        Due.is("put(" + characters + ")", fast.put(characters), slow.put(characters));
    }

    private void readGame() {
        Due.is("wipe()", fast.wipe(), slow.wipe());
        int columns = 2 + below(2);
        StringBuilder text = new StringBuilder();
        for (int i = 0; i < 2 * columns; i++) {
            text.append(i == 0 ? "" : i == columns ? "/" : ";");
            for (int player = 0; player < 2; player++) {
                int points = below(2 * mostPoints + 1) - mostPoints;
                text.append(player == 0 ? "" : ",").append(points == 0 && below(2) == 0 ? "-0" : "" + points);
            }
        }
        if (below(4) == 0) {
            text.setCharAt(below(text.length()), "-,;/0 5x9:".charAt(below(10)));
        }
        if (below(8) == 0) {
            text.setLength(below(text.length()));
        }
        if (below(8) == 0) {
            text.append(";/,-1".charAt(below(5)));
        }
        for (int i = 0; i < text.length(); i += 8) {
            put(Texts.packed(text.substring(i, Math.min(text.length(), i + 8))));
        }
        Due.is("fault() of " + text, fast.fault(), slow.fault());
        Due.is("read() of " + text, fast.read(), slow.read());
        Due.is("count(11)", fast.count(11), slow.count(11));
    }

    private void scribble() {
        long characters = 0;
        int many = below(9);
        for (int i = 0; i < many; i++) {
            characters = characters << 8 | "-,;/0123456789".charAt(below(14));
        }
        if (below(8) == 0) {
            characters ^= 1L << below(64);
        }
        put(below(20) == 0 ? random.nextLong() : characters);
        if (below(6) == 0) {
            Due.is("wipe()", fast.wipe(), slow.wipe());
        }
        Due.is("fault()", fast.fault(), slow.fault());
    }

    private void slotOrUndo() {
        int slot = about(0, 1);
        switch (below(4)) {
            case 0:
                Due.is("save", fast.save(slot), slow.save(slot));
                break;
            case 1:
                Due.is("restore", fast.restore(slot), slow.restore(slot));
                break;
            default:
                Due.is("undo()", fast.undo(), slow.undo());
        }
    }

    private void look() {
        int what = about(0, 12);
        switch (below(9)) {
            case 0: {
                int row = row(), column = column();
                Due.is("cell", fast.cell(row, column, what % 7), slow.cell(row, column, what % 7));
                break;
            }
            case 1: case 2: {
                int number = about(0, slow.count(2) - 1);
                Due.is("inequality", fast.inequality(number, what % 6), slow.inequality(number, what % 6));
                break;
            }
            case 3:
                Due.is("count(" + what + ")", fast.count(what), slow.count(what));
                break;
            case 4: {
                int player = about(0, 2);
                Due.is("worth", fast.worth(player), slow.worth(player));
                break;
            }
            case 5: case 6: {
                int number = number(), of = about(0, 8);
                Due.is("extreme", fast.extreme(number, of), slow.extreme(number, of));
                break;
            }
            case 7: {
                int player = about(0, 2), of = about(0, 1);
                Due.is("best", fast.best(player, of), slow.best(player, of));
                break;
            }
            default: {
                int player = about(0, 1);
                Due.is("neverTold", fast.neverTold(player), slow.neverTold(player));
                Due.is("sure()", fast.sure(), slow.sure());
            }
        }
    }

    /** All that there is, at the end of a run. */
    private void lookAtAll() {
        for (int what = 0; what < 13; what++) {
            Due.is("count(" + what + ")", fast.count(what), slow.count(what));
        }
        for (int number = 0; number < slow.count(6); number++) {
            for (int what = 0; what < 9; what++) {
                Due.is("extreme(" + number + ", " + what + ")", fast.extreme(number, what), slow.extreme(number, what));
            }
        }
        for (int number = 0; number < slow.count(2); number++) {
            for (int what = 0; what < 5; what++) {
                Due.is("inequality(" + number + ", " + what + ")", fast.inequality(number, what),
                    slow.inequality(number, what));
            }
        }
        for (int cell = 0; cell < slow.count(1); cell++) {
            int row = cell / slow.count(0);
            int column = cell % slow.count(0);
            for (int what = 0; what < 6; what++) {
                Due.is("cell(" + row + ", " + column + ", " + what + ")", fast.cell(row, column, what),
                    slow.cell(row, column, what));
            }
        }
        for (int player = 0; player < 3; player++) {
            Due.is("worth(" + player + ")", fast.worth(player), slow.worth(player));
            Due.is("best(" + player + ", 0)", fast.best(player, 0), slow.best(player, 0));
            Due.is("best(" + player + ", 1)", fast.best(player, 1), slow.best(player, 1));
            Due.is("neverTold(" + player + ")", fast.neverTold(player), slow.neverTold(player));
        }
        Due.is("sure()", fast.sure(), slow.sure());
        Due.is("fault()", fast.fault(), slow.fault());
    }

    private void run() {
        // each call is compared, so the answers asked for are the calls
        int before = Due.asked();
        while (Due.asked() - before < CALLS && Due.noneWrong()) {
            int kind = below(20);
            if (kind < 8) {
                change();
            } else if (kind < 10) {
                slotOrUndo();
            } else if (kind < 11) {
                scribble();
            } else {
                look();
            }
        }
        lookAtAll();
    }

    public static void main(String[] args) {
        for (int seed = 0; seed < RUNS && Due.noneWrong(); seed++) {
            new RandomRunsTest(seed).run();
            if (!Due.noneWrong()) {
                System.out.println("in the run " + seed);
            }
        }
        Due.end();
    }
}
