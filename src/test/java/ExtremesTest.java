import java.util.Random;

/** All extreme dice of many games, compared with those that SlowDice finds by its search. */
public final class ExtremesTest {
    private static final int GAMES = 3000;

    private ExtremesTest() {
    }

    /** Of several kinds: few points, many points, and both players drawn to the same or to other cells. */
    private static int points(Random random, int kind, int player, int row, int column) {
        int most = new int[] {1, 2, 9}[kind % 3];
        int drawn = (row == column % 2) == (kind % 4 != 3 || player == 0) ? 1 : -1;
        return kind % 4 < 2 ? random.nextInt(2 * most + 1) - most : drawn * (1 + random.nextInt(most));
    }

    private static void compare(String game, ObedientDice fast, SlowDice slow) {
        Due.is(game + "count(6)", fast.count(6), slow.count(6));
        for (int number = 0; number <= fast.count(6); number++) {
            for (int what = 0; what < 10; what++) {
                Due.is(game + "extreme(" + number + ", " + what + ")", fast.extreme(number, what), slow.extreme(number, what));
            }
        }
        for (int player = 0; player < 3; player++) {
            Due.is(game + "best", fast.best(player, 0), slow.best(player, 0));
            Due.is(game + "best", fast.best(player, 1), slow.best(player, 1));
            Due.is(game + "neverTold", fast.neverTold(player), slow.neverTold(player));
        }
        for (int cell = 0; cell < fast.count(1); cell++) {
            int row = cell / fast.count(0);
            int column = cell % fast.count(0);
            Due.is(game + "told", fast.cell(row, column, 5), slow.cell(row, column, 5));
        }
        Due.is(game + "sure()", fast.sure(), slow.sure());
    }

    /** Whoever takes extreme dice has dice that are obeyed, and worth what is said. */
    private static void takeAll(String game, ObedientDice dice) {
        for (int number = 0; number < dice.count(6); number++) {
            if (dice.take(number) > 0) {
                Due.is(game + "obeyed", dice.count(4), 1);
                Due.is(game + "sum", dice.count(3), dice.extreme(number, 6));
                Due.is(game + "worth", dice.worth(0) <= dice.best(0, 1) ? 1 : 0, 1);
            }
        }
    }

    public static void main(String[] args) {
        Random random = new Random(1);
        for (int kind = 0; kind < GAMES && Due.noneWrong(); kind++) {
            ObedientDice fast = new ObedientDice();
            SlowDice slow = new SlowDice();
            int columns = kind % 5 == 0 ? 2 : 3;
            fast.begin(columns);
            slow.begin(columns);
            StringBuilder game = new StringBuilder();
            for (int i = 0; i < 4 * columns; i++) {
                int row = i / 2 / columns;
                int column = i / 2 % columns;
                int points = points(random, kind, i % 2, row, column);
                fast.points(i % 2, row, column, points);
                slow.points(i % 2, row, column, points);
                game.append(points).append(' ');
            }
            compare(game.toString(), fast, slow);
            takeAll(game.toString(), fast);
        }
        Due.end();
    }
}
