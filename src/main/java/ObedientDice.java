/** A mediator who tells two players their moves by dice; README.md tells how to use it. */
public final class ObedientDice {

    public static final int NO_SUCH = -1;
    public static final int BAD_VALUE = -2;
    public static final int BAD_TEXT = -3;
    public static final int TOO_MANY = -4;
    public static final int NOT_POSSIBLE = -5;
    public static final int NONE = -6;

    private static final int PLAYERS = 2;
    private static final int BOTH = 2;
    private static final int ROWS = 2;
    private static final int FEWEST_COLUMNS = 2;
    private static final int MOST_COLUMNS = 3;
    private static final int MOST_CELLS = ROWS * MOST_COLUMNS;
    private static final int MOST_POINTS = 9;
    private static final int MOST_WEIGHT = 999;
    private static final int MOST_TIMES = 9;
    private static final int MOST_AT_ONCE = 100;
    private static final int MOST_THROWS = 1000;
    private static final int MOST_CHANGES = 6;
    private static final int SLOTS = 2;

    private static final int MORE_FOR_POINTS = 100;
    private static final int MORE_FOR_SUMS = 100000;
    private static final int MORE_FOR_INEQUALITIES = 1000000;

    private final State now = new State();
    private final Extremes found = new Extremes();
    private final Pad pad = new Pad();
    private final State[] history = new State[MOST_CHANGES];
    private final State[] slots = new State[SLOTS];
    private int changes = 0;

    public ObedientDice() {
    }

    // ---- changes

    public int begin(int columns) {
        if (columns < FEWEST_COLUMNS || columns > MOST_COLUMNS) {
            return BAD_VALUE;
        }
        int before = now.columns;
        recordChange();
        now.startAnew(columns);
        return before;
    }

    public int points(int player, int row, int column, int points) {
        if (!isPlayer(player) || !isCell(row, column)) {
            return NO_SUCH;
        }
        if (points < -MOST_POINTS || points > MOST_POINTS) {
            return BAD_VALUE;
        }
        int cell = now.cellAt(row, column);
        int before = now.gain(player, cell);
        recordChange();
        now.setGain(player, cell, points);
        return before + MORE_FOR_POINTS;
    }

    public int weigh(int row, int column, int weight) {
        if (!isCell(row, column)) {
            return NO_SUCH;
        }
        if (weight < 0 || weight > MOST_WEIGHT) {
            return BAD_VALUE;
        }
        int cell = now.cellAt(row, column);
        int before = amount(now.weights, cell);
        if (sumOf(now.weights) - before + weight <= 0) {
            return NOT_POSSIBLE;
        }
        recordChange();
        setAmount(now.weights, cell, weight);
        return before;
    }

    public int take(int number) {
        Extremes all = found.workedOut(now);
        if (!all.has(number)) {
            return NO_SUCH;
        }
        return mixWith(all, number, 0, 1);
    }

    public int mix(int number, int times, int other) {
        Extremes all = found.workedOut(now);
        if (!all.has(number)) {
            return NO_SUCH;
        }
        if (times < 0 || times > MOST_TIMES || other < 0 || other > MOST_TIMES) {
            return BAD_VALUE;
        }
        if (times == 0 && other == 0) {
            return BAD_VALUE;
        }
        return mixWith(all, number, times, other);
    }

    public int roll(int many) {
        if (many < 1 || many > MOST_AT_ONCE) {
            return BAD_VALUE;
        }
        if (sumOf(now.falls) + many > MOST_THROWS) {
            return TOO_MANY;
        }
        recordChange();
        int cell = 0;
        for (int i = 0; i < many; i++) {
            cell = now.throwDice();
        }
        return cell;
    }

    public int forget(int seed) {
        if (seed < 0) {
            return BAD_VALUE;
        }
        int before = sumOf(now.falls);
        recordChange();
        fillAmounts(now.falls, 0, 0);
        now.thrower = seed;
        return before;
    }

    public int read() {
        if (pad.findFault() != NONE) {
            return BAD_TEXT;
        }
        recordChange();
        now.startAnew(pad.columns);
        for (int player = 0; player < PLAYERS; player++) {
            for (int cell = 0; cell < now.cells(); cell++) {
                now.setGain(player, cell, pad.number(player, cell));
            }
        }
        pad.length = 0;
        return now.columns;
    }

    // ---- what there is

    public int cell(int row, int column, int what) {
        if (!isCell(row, column)) {
            return NO_SUCH;
        }
        int cell = now.cellAt(row, column);
        switch (what) {
            case 0:
            case 1:
                return now.gain(what, cell) + MORE_FOR_POINTS;
            case 2:
                return amount(now.weights, cell);
            case 3:
                return amount(now.falls, cell);
            case 4:
                return now.isSure(cell) ? 1 : 0;
            case 5:
                return (found.workedOut(now).everTold() >> cell) & 1;
            default:
                return BAD_VALUE;
        }
    }

    public int inequality(int inequality, int what) {
        if (inequality < 0 || inequality >= now.inequalities()) {
            return NO_SUCH;
        }
        switch (what) {
            case 0:
                return now.playerOf(inequality);
            case 1:
                return now.toldMove(inequality);
            case 2:
                return now.otherMove(inequality);
            case 3:
                return now.leftSide(inequality, now.weights) + MORE_FOR_INEQUALITIES;
            case 4:
                // a regret counts what disobeying would have gained, the left side what it would have lost
                return MORE_FOR_INEQUALITIES - now.leftSide(inequality, now.falls);
            default:
                return BAD_VALUE;
        }
    }

    public int count(int what) {
        switch (what) {
            case 0:
                return now.columns;
            case 1:
                return now.cells();
            case 2:
                return now.inequalities();
            case 3:
                return sumOf(now.weights);
            case 4:
                return now.brokenInequalities() == 0 ? 1 : 0;
            case 5:
                return now.brokenInequalities();
            case 6:
                return found.workedOut(now).size;
            case 7:
                return sumOf(now.falls);
            case 8:
            case 9:
                return now.pointsBy(now.falls, what - 8) + MORE_FOR_SUMS;
            case 10:
                return now.thrower;
            case 11:
                return pad.length;
            case 12:
                return changes;
            default:
                return BAD_VALUE;
        }
    }

    public int worth(int player) {
        if (!isPlayerOrBoth(player)) {
            return BAD_VALUE;
        }
        return thousandths(now.pointsBy(now.weights, player), sumOf(now.weights));
    }

    // ---- extreme dice; nothing changes

    public int extreme(int number, int what) {
        Extremes all = found.workedOut(now);
        if (!all.has(number)) {
            return NO_SUCH;
        }
        if (what >= 0 && what < now.cells()) {
            return (int) all.weight(number, what);
        }
        switch (what) {
            case 6:
                return (int) all.weightSum(number);
            case 7:
                return all.toldCells(number);
            case 8:
                return all.tightInequalities(number);
            default:
                return BAD_VALUE;
        }
    }

    public int best(int player, int what) {
        if (!isPlayerOrBoth(player) || what < 0 || what > 1) {
            return BAD_VALUE;
        }
        Extremes all = found.workedOut(now);
        int number = all.bestFor(now, player);
        if (what == 0) {
            return number;
        }
        return thousandths(all.pointsBy(now, number, player), all.weightSum(number));
    }

    public int neverTold(int player) {
        if (!isPlayer(player)) {
            return NO_SUCH;
        }
        int told = found.workedOut(now).everTold();
        int moves = 0;
        for (int cell = 0; cell < now.cells(); cell++) {
            if (((told >> cell) & 1) == 1) {
                moves |= 1 << now.moveIn(cell, player);
            }
        }
        int allMoves = (1 << (player == 0 ? ROWS : now.columns)) - 1;
        return allMoves & ~moves;
    }

    public int sure() {
        int cells = 0;
        for (int cell = 0; cell < now.cells(); cell++) {
            if (now.isSure(cell)) {
                cells |= 1 << cell;
            }
        }
        return cells;
    }

    // ---- texts

    public int put(long characters) {
        int many = Pad.charactersIn(characters);
        if (many < 1) {
            return BAD_VALUE;
        }
        if (pad.length + many > Pad.MOST_CHARACTERS) {
            return TOO_MANY;
        }
        pad.append(characters, many);
        return pad.length;
    }

    public int wipe() {
        int before = pad.length;
        pad.length = 0;
        return before;
    }

    public int fault() {
        return pad.findFault();
    }

    // ---- undo, saving

    public int undo() {
        if (changes < 1 || changes > history.length) {
            return NOT_POSSIBLE;
        }
        State before = history[changes - 1];
        if (before == null) {
            return NOT_POSSIBLE;
        }
        now.copyFrom(before);
        changes--;
        return changes;
    }

    public int save(int slot) {
        if (slot < 0 || slot >= slots.length) {
            return BAD_VALUE;
        }
        State kept = slots[slot];
        if (kept == null) {
            kept = new State();
            slots[slot] = kept;
        }
        kept.copyFrom(now);
        return sumOf(now.falls);
    }

    public int restore(int slot) {
        if (slot < 0 || slot >= slots.length) {
            return BAD_VALUE;
        }
        State kept = slots[slot];
        if (kept == null) {
            return NOT_POSSIBLE;
        }
        recordChange();
        now.copyFrom(kept);
        return sumOf(now.falls);
    }

    // ---- what the calls above share

    private static boolean isPlayer(int player) {
        return player >= 0 && player < PLAYERS;
    }

    private static boolean isPlayerOrBoth(int player) {
        return isPlayer(player) || player == BOTH;
    }

    private boolean isCell(int row, int column) {
        return row >= 0 && row < ROWS && column >= 0 && column < now.columns;
    }

    private int mixWith(Extremes all, int number, int times, int other) {
        for (int cell = 0; cell < now.cells(); cell++) {
            if (mixedWeight(all, number, cell, times, other) > MOST_WEIGHT) {
                return TOO_MANY;
            }
        }
        recordChange();
        for (int cell = 0; cell < now.cells(); cell++) {
            setAmount(now.weights, cell, (int) mixedWeight(all, number, cell, times, other));
        }
        return sumOf(now.weights);
    }

    private long mixedWeight(Extremes all, int number, int cell, int times, int other) {
        return (long) times * amount(now.weights, cell) + other * all.weight(number, cell);
    }

    private static int thousandths(long points, long weights) {
        if (weights <= 0) {
            return MORE_FOR_SUMS;
        }
        return (int) Math.floorDiv(1000 * points, weights) + MORE_FOR_SUMS;
    }

    private void recordChange() {
        if (changes >= history.length) {
            dropOldestChange();
        }
        if (changes < 0 || changes >= history.length) {
            return;
        }
        State kept = history[changes];
        if (kept == null) {
            kept = new State();
            history[changes] = kept;
        }
        kept.copyFrom(now);
        changes++;
    }

    /** The oldest state's object goes to the free end, so that it is used again. */
    private void dropOldestChange() {
        State oldest = history[0];
        for (int i = 1; i < history.length; i++) {
            history[i - 1] = history[i];
        }
        history[history.length - 1] = oldest;
        changes = history.length - 1;
    }

    private static int amount(int[] amounts, int cell) {
        if (cell < 0 || cell >= amounts.length) {
            return 0;
        }
        return amounts[cell];
    }

    private static void setAmount(int[] amounts, int cell, int amount) {
        if (cell >= 0 && cell < amounts.length) {
            amounts[cell] = amount;
        }
    }

    /** The first ones become so much, those behind them 0. */
    private static void fillAmounts(int[] amounts, int first, int amount) {
        for (int cell = 0; cell < amounts.length; cell++) {
            amounts[cell] = cell < first ? amount : 0;
        }
    }

    private static int sumOf(int[] amounts) {
        int sum = 0;
        for (int amount : amounts) {
            sum += amount;
        }
        return sum;
    }

    /** All that is saved and undone: a game, its dice, and what was thrown. */
    private static final class State {

        int columns = FEWEST_COLUMNS;
        int thrower = 1;
        final int[] gains = new int[PLAYERS * MOST_CELLS];
        final int[] weights = new int[MOST_CELLS];
        final int[] falls = new int[MOST_CELLS];

        State() {
            startAnew(FEWEST_COLUMNS);
        }

        void startAnew(int newColumns) {
            columns = newColumns;
            fillAmounts(gains, 0, 0);
            fillAmounts(weights, cells(), 1);
            fillAmounts(falls, 0, 0);
        }

        void copyFrom(State other) {
            columns = other.columns;
            thrower = other.thrower;
            System.arraycopy(other.gains, 0, gains, 0, PLAYERS * MOST_CELLS);
            System.arraycopy(other.weights, 0, weights, 0, MOST_CELLS);
            System.arraycopy(other.falls, 0, falls, 0, MOST_CELLS);
        }

        boolean isSameGame(int otherColumns, int[] otherGains) {
            if (columns != otherColumns) {
                return false;
            }
            for (int i = 0; i < PLAYERS * MOST_CELLS; i++) {
                if (amount(gains, i) != amount(otherGains, i)) {
                    return false;
                }
            }
            return true;
        }

        int cells() {
            return ROWS * columns;
        }

        int cellAt(int row, int column) {
            return columns * row + column;
        }

        int moveIn(int cell, int player) {
            int row = cell < columns ? 0 : 1;
            return player == 0 ? row : cell - columns * row;
        }

        int gain(int player, int cell) {
            return amount(gains, player * MOST_CELLS + cell);
        }

        void setGain(int player, int cell, int points) {
            setAmount(gains, player * MOST_CELLS + cell, points);
        }

        int gainForOneOrBoth(int player, int cell) {
            return player == BOTH ? gain(0, cell) + gain(1, cell) : gain(player, cell);
        }

        int pointsBy(int[] amounts, int player) {
            int sum = 0;
            for (int cell = 0; cell < cells(); cell++) {
                sum += amount(amounts, cell) * gainForOneOrBoth(player, cell);
            }
            return sum;
        }

        int inequalities() {
            return ROWS + columns * (columns - 1);
        }

        int playerOf(int inequality) {
            return inequality < ROWS ? 0 : 1;
        }

        int toldMove(int inequality) {
            if (inequality < ROWS) {
                return inequality;
            }
            return columns == MOST_COLUMNS ? (inequality - ROWS) / 2 : inequality - ROWS;
        }

        int otherMove(int inequality) {
            int told = toldMove(inequality);
            if (inequality < ROWS || columns < MOST_COLUMNS) {
                return 1 - told;
            }
            int place = (inequality - ROWS) % 2;
            return place < told ? place : place + 1;
        }

        /** The points that the inequality's player loses in the cell by the other move; 0 if the cell doesn't tell the move. */
        int loss(int inequality, int cell) {
            int player = playerOf(inequality);
            if (moveIn(cell, player) != toldMove(inequality)) {
                return 0;
            }
            int row = moveIn(cell, 0);
            int column = moveIn(cell, 1);
            int other = otherMove(inequality);
            int otherCell = player == 0 ? cellAt(other, column) : cellAt(row, other);
            return gain(player, cell) - gain(player, otherCell);
        }

        int leftSide(int inequality, int[] amounts) {
            int sum = 0;
            for (int cell = 0; cell < cells(); cell++) {
                sum += amount(amounts, cell) * loss(inequality, cell);
            }
            return sum;
        }

        int brokenInequalities() {
            int broken = 0;
            for (int inequality = 0; inequality < inequalities(); inequality++) {
                if (leftSide(inequality, weights) < 0) {
                    broken++;
                }
            }
            return broken;
        }

        boolean isSure(int cell) {
            for (int inequality = 0; inequality < inequalities(); inequality++) {
                if (loss(inequality, cell) < 0) {
                    return false;
                }
            }
            return true;
        }

        /** Returns the cell that falls. */
        int throwDice() {
            thrower = (int) ((thrower * 1103515245L + 12345L) % 2147483648L);
            int sum = sumOf(weights);
            if (sum <= 0) {
                return 0;
            }
            int target = thrower / 65536 % sum;
            int cell = 0;
            int upTo = amount(weights, 0);
            while (upTo <= target && cell < cells() - 1) {
                cell++;
                upTo += amount(weights, cell);
            }
            setAmount(falls, cell, amount(falls, cell) + 1);
            return cell;
        }
    }

    /**
     * The extreme dice of a game. The dice that are obeyed are a cone; its extreme rays are found by cutting the
     * cone of all dice with one inequality after the other.
     */
    private static final class Extremes {

        // a polytope of 5 dimensions with 6 + 8 sides has at most 110 corners (the upper bound theorem)
        private static final int MOST_RAYS = 128;

        int size = 0;
        private int nextSize = 0;
        private long[] weights = new long[MOST_RAYS * MOST_CELLS];
        private long[] nextWeights = new long[MOST_RAYS * MOST_CELLS];
        // the cells with the weight 0 and, above them, the inequalities with the slack 0 among those cut so far
        private int[] tight = new int[MOST_RAYS];
        private int[] nextTight = new int[MOST_RAYS];
        private final long[] slacks = new long[MOST_RAYS];
        private final long[] sums = new long[MOST_RAYS];
        private final int[] losses = new int[MOST_CELLS];
        // the game that they were worked out for; no columns: none so far
        private int ofColumns = 0;
        private final int[] ofGains = new int[PLAYERS * MOST_CELLS];

        /** Returns this, worked out anew if it was of another game. */
        Extremes workedOut(State game) {
            if (game.isSameGame(ofColumns, ofGains)) {
                return this;
            }
            startWithSingleCells(game.cells());
            for (int inequality = 0; inequality < game.inequalities(); inequality++) {
                cutWith(game, inequality);
            }
            sumUp();
            sort();
            ofColumns = game.columns;
            System.arraycopy(game.gains, 0, ofGains, 0, PLAYERS * MOST_CELLS);
            return this;
        }

        boolean has(int number) {
            return number >= 0 && number < size;
        }

        long weight(int number, int cell) {
            int index = number * MOST_CELLS + cell;
            if (number < 0 || number >= size || cell < 0 || cell >= MOST_CELLS || index >= weights.length) {
                return 0;
            }
            return weights[index];
        }

        long weightSum(int number) {
            if (number < 0 || number >= sums.length) {
                return 0;
            }
            return sums[number];
        }

        int toldCells(int number) {
            int told = 0;
            for (int cell = 0; cell < MOST_CELLS; cell++) {
                if (weight(number, cell) > 0) {
                    told |= 1 << cell;
                }
            }
            return told;
        }

        int tightInequalities(int number) {
            return tightOf(number) >> MOST_CELLS;
        }

        /** The cells that some extreme dice tell. */
        int everTold() {
            int told = 0;
            for (int number = 0; number < size; number++) {
                told |= toldCells(number);
            }
            return told;
        }

        long pointsBy(State game, int number, int player) {
            long sum = 0;
            for (int cell = 0; cell < game.cells(); cell++) {
                sum += weight(number, cell) * game.gainForOneOrBoth(player, cell);
            }
            return sum;
        }

        int bestFor(State game, int player) {
            int leader = 0;
            long most = pointsBy(game, 0, player);
            for (int number = 1; number < size; number++) {
                long points = pointsBy(game, number, player);
                if (points * weightSum(leader) > most * weightSum(number)) {
                    leader = number;
                    most = points;
                }
            }
            return leader;
        }

        private int tightOf(int number) {
            if (number < 0 || number >= tight.length) {
                return 0;
            }
            return tight[number];
        }

        private long slackOf(int number) {
            if (number < 0 || number >= slacks.length) {
                return 0;
            }
            return slacks[number];
        }

        private void startWithSingleCells(int cells) {
            int allCells = (1 << cells) - 1;
            nextSize = 0;
            for (int single = 0; single < cells; single++) {
                int start = startOfNext();
                for (int cell = 0; cell < MOST_CELLS; cell++) {
                    setNext(start + cell, cell == single ? 1 : 0);
                }
                finishNext(allCells & ~(1 << single));
            }
            turnToNext();
        }

        /** Leaves of the cone what obeys the inequality, too. */
        private void cutWith(State game, int inequality) {
            takeSlacks(game, inequality);
            int cutBit = 1 << (MOST_CELLS + inequality);
            nextSize = 0;
            for (int number = 0; number < size; number++) {
                if (slackOf(number) >= 0) {
                    keep(number, slackOf(number) == 0 ? cutBit : 0);
                }
            }
            for (int above = 0; above < size; above++) {
                if (slackOf(above) > 0) {
                    addNeighboursBelow(above, cutBit);
                }
            }
            turnToNext();
        }

        private void addNeighboursBelow(int above, int cutBit) {
            for (int below = 0; below < size; below++) {
                if (slackOf(below) < 0 && areNeighbours(above, below)) {
                    addBetween(above, below, cutBit);
                }
            }
        }

        private void takeSlacks(State game, int inequality) {
            for (int cell = 0; cell < MOST_CELLS; cell++) {
                setAmount(losses, cell, cell < game.cells() ? game.loss(inequality, cell) : 0);
            }
            for (int number = 0; number < size && number < slacks.length; number++) {
                long slack = 0;
                for (int cell = 0; cell < MOST_CELLS; cell++) {
                    slack += weight(number, cell) * amount(losses, cell);
                }
                slacks[number] = slack;
            }
        }

        /** Two rays span a side of the cone if no third one lies in all the sides in which both lie. */
        private boolean areNeighbours(int one, int another) {
            int common = tightOf(one) & tightOf(another);
            for (int third = 0; third < size; third++) {
                if (third != one && third != another && (tightOf(third) & common) == common) {
                    return false;
                }
            }
            return true;
        }

        private void keep(int number, int newlyTight) {
            int start = startOfNext();
            for (int cell = 0; cell < MOST_CELLS; cell++) {
                setNext(start + cell, weight(number, cell));
            }
            finishNext(tightOf(number) | newlyTight);
        }

        /** Adds the ray between a ray above the cut and one below it, at which the slack is 0. */
        private void addBetween(int above, int below, int cutBit) {
            int start = startOfNext();
            long divisor = 0;
            for (int cell = 0; cell < MOST_CELLS; cell++) {
                long mixed = mixedAtCut(above, below, cell);
                divisor = commonDivisor(mixed, divisor);
            }
            for (int cell = 0; cell < MOST_CELLS; cell++) {
                long mixed = mixedAtCut(above, below, cell);
                setNext(start + cell, divisor > 1 ? mixed / divisor : mixed);
            }
            finishNext((tightOf(above) & tightOf(below)) | cutBit);
        }

        private long mixedAtCut(int above, int below, int cell) {
            return slackOf(above) * weight(below, cell) - slackOf(below) * weight(above, cell);
        }

        private int startOfNext() {
            return nextSize * MOST_CELLS;
        }

        private void setNext(int index, long weight) {
            if (index >= 0 && index < nextWeights.length) {
                nextWeights[index] = weight;
            }
        }

        private void finishNext(int tightSet) {
            if (nextSize >= 0 && nextSize < nextTight.length) {
                nextTight[nextSize] = tightSet;
                nextSize++;
            }
        }

        private void turnToNext() {
            long[] oldWeights = weights;
            weights = nextWeights;
            nextWeights = oldWeights;
            int[] oldTight = tight;
            tight = nextTight;
            nextTight = oldTight;
            size = nextSize;
        }

        private void sumUp() {
            for (int number = 0; number < size && number < sums.length; number++) {
                long sum = 0;
                for (int cell = 0; cell < MOST_CELLS; cell++) {
                    sum += weight(number, cell);
                }
                sums[number] = sum;
            }
        }

        private void sort() {
            for (int end = 1; end < size; end++) {
                for (int number = end; number > 0 && comesBefore(number, number - 1); number--) {
                    exchange(number, number - 1);
                }
            }
        }

        /** Compares the odds without a division, so that nothing is rounded. */
        private boolean comesBefore(int one, int another) {
            for (int cell = 0; cell < MOST_CELLS; cell++) {
                long odds = weight(one, cell) * weightSum(another);
                long otherOdds = weight(another, cell) * weightSum(one);
                if (odds != otherOdds) {
                    return odds > otherOdds;
                }
            }
            return false;
        }

        private void exchange(int one, int another) {
            if (one < 0 || one >= size || another < 0 || another >= size || size > MOST_RAYS) {
                return;
            }
            for (int cell = 0; cell < MOST_CELLS; cell++) {
                long weight = weights[one * MOST_CELLS + cell];
                weights[one * MOST_CELLS + cell] = weights[another * MOST_CELLS + cell];
                weights[another * MOST_CELLS + cell] = weight;
            }
            int set = tight[one];
            tight[one] = tight[another];
            tight[another] = set;
            long sum = sums[one];
            sums[one] = sums[another];
            sums[another] = sum;
        }

        private static long commonDivisor(long one, long another) {
            long larger = Math.max(one, another);
            long smaller = Math.min(one, another);
            // Euclid's steps on two longs are fewer than 100
            for (int step = 0; step < 100 && smaller > 0; step++) {
                long left = larger % smaller;
                larger = smaller;
                smaller = left;
            }
            return larger;
        }
    }

    /** The text that is written bit by bit, and the game that it tells. */
    private static final class Pad {

        static final int MOST_CHARACTERS = 60;

        private static final int NUMBER = 0;
        private static final int DIGIT = 1;
        private static final int COMMA = 2;
        private static final int BEHIND_CELL = 3;

        int length = 0;
        int columns = 0;
        private final char[] text = new char[MOST_CHARACTERS];
        private final int[] numbers = new int[PLAYERS * MOST_CELLS];
        // how far the reading has come: what is due next, in which row, behind how many cells of it, for which player
        private int due = NUMBER;
        private int row = 0;
        private int cellsOfRow = 0;
        private int player = 0;
        private boolean negative = false;

        /** How many characters the number holds; 0 if it isn't one that holds some. */
        static int charactersIn(long characters) {
            int many = 0;
            long rest = characters;
            for (int i = 0; i < 8 && rest != 0; i++) {
                long code = rest & 255;
                if (code < 33 || code > 126) {
                    return 0;
                }
                many++;
                rest >>>= 8;
            }
            return many;
        }

        void append(long characters, int many) {
            for (int i = 0; i < many; i++) {
                int shift = 8 * (many - 1 - i);
                if (length >= 0 && length < text.length) {
                    text[length] = (char) ((characters >>> shift) & 255);
                    length++;
                }
            }
        }

        int number(int ofPlayer, int cell) {
            return amount(numbers, ofPlayer * MOST_CELLS + cell);
        }

        /** Reads the text; if it has no fault, its game is in the columns and the numbers then. */
        int findFault() {
            due = NUMBER;
            row = 0;
            cellsOfRow = 0;
            player = 0;
            negative = false;
            columns = 0;
            for (int i = 0; i < length && i < text.length; i++) {
                if (!accepts(text[i])) {
                    return i;
                }
            }
            boolean finished = due == BEHIND_CELL && row == 1 && cellsOfRow == columns;
            return finished ? NONE : length;
        }

        /** Whether the character can stand next; if so, the reading goes on behind it. */
        private boolean accepts(char sign) {
            switch (due) {
                case NUMBER:
                    return sign == '-' ? acceptsMinus() : acceptsDigit(sign);
                case DIGIT:
                    return acceptsDigit(sign);
                case COMMA:
                    return sign == ',' && acceptsComma();
                default:
                    return sign == '/' ? acceptsSlash() : sign == ';' && acceptsSemicolon();
            }
        }

        private boolean acceptsMinus() {
            negative = true;
            due = DIGIT;
            return true;
        }

        private boolean acceptsDigit(char sign) {
            if (sign < '0' || sign > '9') {
                return false;
            }
            int value = negative ? '0' - sign : sign - '0';
            setAmount(numbers, player * MOST_CELLS + columns * row + cellsOfRow, value);
            negative = false;
            if (player == 0) {
                due = COMMA;
            } else {
                due = BEHIND_CELL;
                cellsOfRow++;
            }
            return true;
        }

        private boolean acceptsComma() {
            player = 1;
            due = NUMBER;
            return true;
        }

        private boolean acceptsSemicolon() {
            int most = row == 0 ? MOST_COLUMNS : columns;
            if (cellsOfRow >= most) {
                return false;
            }
            player = 0;
            due = NUMBER;
            return true;
        }

        private boolean acceptsSlash() {
            if (row != 0 || cellsOfRow < FEWEST_COLUMNS) {
                return false;
            }
            columns = cellsOfRow;
            row = 1;
            cellsOfRow = 0;
            player = 0;
            due = NUMBER;
            return true;
        }
    }
}
