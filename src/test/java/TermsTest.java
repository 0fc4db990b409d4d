/** The boundary cases of the document's terms: conventions, games and dice, obedience, extreme dice, throws. */
public final class TermsTest {
    private TermsTest() {
    }

    // ---- conventions

    @Sentence("NONE (-6) is not an error; it is returned only if no error applies.")
    private static void noneIsNoError() {
        ObedientDice dice = new ObedientDice();
        Due.is("fault() of nothing", dice.fault(), 0);
        Texts.put(dice, Games.CHICKEN);
        Due.is("fault()", dice.fault(), ObedientDice.NONE);
        Due.is("NONE", ObedientDice.NONE, -6);
        Due.is("fault() again", dice.fault(), ObedientDice.NONE);
        Due.is("read() without a fault", dice.read(), 2);
    }

    @Sentence("Everything is numbered from 0.")
    private static void numberedFrom0() {
        ObedientDice dice = new ObedientDice();
        dice.weigh(0, 0, 5);
        Due.is("cell(0, 0, 2)", dice.cell(0, 0, 2), 5);
        Due.is("points(0, 0, 0, 3)", dice.points(0, 0, 0, 3), 100);
        Due.is("cell(0, 0, 0)", dice.cell(0, 0, 0), 103);
        Due.is("inequality(0, 0)", dice.inequality(0, 0), 0);
        Due.is("inequality(0, 1)", dice.inequality(0, 1), 0);
        Due.is("extreme(0, 0)", dice.extreme(0, 0), 1);
        Due.is("save(0)", dice.save(0), 0);
        Due.is("restore(0)", dice.restore(0), 0);
        Due.is("take(0)", dice.take(0), 1);
        Due.is("take(-1)", dice.take(-1), ObedientDice.NO_SUCH);
        Due.is("cell(-1, 0, 2)", dice.cell(-1, 0, 2), ObedientDice.NO_SUCH);
        Due.is("inequality(-1, 0)", dice.inequality(-1, 0), ObedientDice.NO_SUCH);
        Due.is("save(-1)", dice.save(-1), ObedientDice.BAD_VALUE);
    }

    @Sentence("Sets are bit masks.")
    private static void setsAreMasks() {
        ObedientDice dice = new ObedientDice();
        Due.is("all of 4 cells", dice.sure(), 15);
        Due.is("the inequalities with the slack 0, all 4", dice.extreme(0, 8), 15);
        Due.is("the first cell alone", dice.extreme(0, 7), 1);
        dice.begin(3);
        Due.is("all of 6 cells", dice.sure(), 63);
        Due.is("the inequalities with the slack 0, all 8", dice.extreme(5, 8), 255);
        Due.is("the last cell alone", dice.extreme(5, 7), 32);
        Due.is("none", dice.neverTold(1), 0);
        Due.is("none", Texts.game(Games.PENNIES).sure(), 0);
    }

    @Sentence("Numbers that can be below 0 are returned with more, as told.")
    private static void below0WithMore() {
        ObedientDice dice = new ObedientDice();
        Games.allPoints(dice, 0, -9);
        Games.allPoints(dice, 1, -9);
        dice.points(0, 1, 0, 9);
        dice.points(1, 0, 1, 9);
        Games.weigh(dice, 1, 0, 0, 0);
        dice.roll(1);
        Due.is("points", dice.cell(0, 0, 0), 91);
        Due.is("previous points", dice.points(0, 0, 0, -9), 91);
        Due.is("slack", dice.inequality(0, 3), 999982);
        Due.is("regret", dice.inequality(0, 4), 1000018);
        Due.is("points by throws", dice.count(8), 99991);
        Due.is("worth", dice.worth(2), 82000);
        dice.points(0, 1, 0, -9);
        dice.points(1, 0, 1, -9);
        Due.is("the best worth", dice.best(2, 1), 82000);
    }

    @Sentence("Divisions are rounded down, also of numbers below 0.")
    private static void roundedDown() {
        ObedientDice dice = Texts.game("1,-1;0,0/0,0;0,0");
        Games.weigh(dice, 1, 1, 1, 0);
        Due.is("1/3", dice.worth(0), 100333);
        Due.is("-1/3", dice.worth(1), 99666);
        Games.weigh(dice, 1, 1, 1, 3);
        Due.is("1/6", dice.worth(0), 100166);
        Due.is("-1/6", dice.worth(1), 99833);
        Games.weigh(dice, 1, 0, 0, 1);
        Due.is("1/2, nothing to round", dice.worth(0), 100500);
        Due.is("-1/2, nothing to round", dice.worth(1), 99500);
        Games.weigh(dice, 1, 999, 0, 0);
        Due.is("1/1000, nothing to round", dice.worth(0), 100001);
        Due.is("-1/1000, nothing to round", dice.worth(1), 99999);
        Games.weigh(dice, 1, 999, 999, 999);
        Due.is("a little above 0", dice.worth(0), 100000);
        Due.is("a little below 0", dice.worth(1), 99999);
        // the only extreme dice are 2 1 2 1, worth -2/6 for the player 0
        Due.is("the best worth", Texts.game("0,-1;-1,1/-1,1;1,-1").best(0, 1), 99666);
    }

    @Sentence("An object is used for at most 512 calls after it has been made")
    private static void call512() {
        ObedientDice dice = new ObedientDice();
        for (int call = 0; call < 511; call += 7) {
            int points = call % 19 - 9;
            Due.is("points", dice.points(0, 0, 1, points), call == 0 ? 100 : 105);
            Due.is("count(12)", dice.count(12), Math.min(6, 1 + 2 * call / 7));
            Due.is("points", dice.points(0, 0, 1, 5), 100 + points);
            Due.is("extreme", dice.extreme(0, 0), 1);
            Due.is("count(6)", dice.count(6), 3);
            Due.is("save", dice.save(call % 2), 0);
            Due.is("best", dice.best(0, 1), 105000);
        }
        Due.is("the last of 512 calls", dice.restore(1), 0);
    }

    // ---- games and dice

    @Sentence("A game has 2 rows, 0 and 1, and 2 or 3 columns (2 at first).")
    private static void rowsAndColumns() {
        ObedientDice dice = new ObedientDice();
        Due.is("columns at first", dice.count(0), 2);
        Due.is("the row 1 and the column 1", dice.cell(1, 1, 2), 1);
        Due.is("the row 2", dice.cell(2, 0, 2), ObedientDice.NO_SUCH);
        Due.is("the column 2 of two", dice.cell(0, 2, 2), ObedientDice.NO_SUCH);
        dice.begin(3);
        Due.is("columns", dice.count(0), 3);
        Due.is("the column 2 of three", dice.cell(1, 2, 2), 1);
        Due.is("the row 2", dice.cell(2, 0, 2), ObedientDice.NO_SUCH);
        Due.is("the column 3", dice.cell(0, 3, 2), ObedientDice.NO_SUCH);
    }

    @Sentence("each of both players gets some points (-9 to 9; 0 at first)")
    private static void pointsOfCells() {
        ObedientDice dice = new ObedientDice();
        dice.begin(3);
        for (int cell = 0; cell < 6; cell++) {
            for (int player = 0; player < 2; player++) {
                Due.is("at first", dice.cell(cell / 3, cell % 3, player), 100);
                Due.is("points, 9", dice.points(player, cell / 3, cell % 3, 9), 100);
                Due.is("then", dice.cell(cell / 3, cell % 3, player), 109);
                Due.is("points, -9", dice.points(player, cell / 3, cell % 3, -9), 109);
                Due.is("then", dice.cell(cell / 3, cell % 3, player), 91);
            }
        }
        Due.is("points, 10", dice.points(0, 0, 0, 10), ObedientDice.BAD_VALUE);
        Due.is("points, -10", dice.points(0, 0, 0, -10), ObedientDice.BAD_VALUE);
    }

    @Sentence("The number of a cell is the columns times its row, and its column; so there are 4 or 6 cells.")
    private static void numbersOfCells() {
        for (int columns = 2; columns <= 3; columns++) {
            for (int cell = 0; cell < 2 * columns; cell++) {
                int[] weights = new int[2 * columns];
                weights[cell] = 1;
                ObedientDice dice = Games.with(weights);
                Due.is("cells", dice.count(1), 2 * columns);
                Due.is("the cell that falls", dice.roll(3), cell);
                Due.is("its falls", dice.cell(cell / columns, cell % columns, 3), 3);
                Due.is("extreme(" + cell + ", " + cell + ")", dice.extreme(cell, cell), 1);
            }
        }
    }

    @Sentence("Dice are a weight for each cell (0 to 999), not all of them 0.")
    private static void weightsOfCells() {
        ObedientDice dice = Games.with(999, 999, 999, 999, 999, 999);
        Due.is("the greatest sum", dice.count(3), 5994);
        for (int cell = 0; cell < 5; cell++) {
            Due.is("weigh, 0", dice.weigh(cell / 3, cell % 3, 0), 999);
        }
        Due.is("weigh the last one, 0", dice.weigh(1, 2, 0), ObedientDice.NOT_POSSIBLE);
        Due.is("weigh the last one, 1", dice.weigh(1, 2, 1), 999);
        Due.is("the least sum", dice.count(3), 1);
    }

    @Sentence("a cell falls with the odds (its weight / the sum of all weights)")
    private static void oddsOfCells() {
        ObedientDice dice = Games.with(0, 1, 0, 0, 2, 0);
        Games.rollTo(dice, 1000);
        Due.is("the cells without a weight", Games.falls(dice, 0) + Games.falls(dice, 2) + Games.falls(dice, 3)
            + Games.falls(dice, 5), 0);
        Due.is("those with one", Games.falls(dice, 1) + Games.falls(dice, 4), 1000);
        int one = Games.falls(dice, 1);
        Due.is("a third of them, about", one > 283 && one < 383 ? 1 : 0, 1);
    }

    @Sentence("At first each cell has the weight 1.")
    private static void weightsAtFirst() {
        ObedientDice dice = new ObedientDice();
        Games.weightsAre(dice, 1, 1, 1, 1);
        dice.begin(3);
        Games.weightsAre(dice, 1, 1, 1, 1, 1, 1);
    }

    // ---- obedience

    @Sentence("There is an inequality for each player, each of its moves, and each other move of the player")
    private static void inequalities() {
        ObedientDice dice = new ObedientDice();
        Due.is("of 2 columns", dice.count(2), 4);
        Due.is("the last of 4", dice.inequality(3, 0), 1);
        Due.is("behind the last of 4", dice.inequality(4, 0), ObedientDice.NO_SUCH);
        dice.begin(3);
        Due.is("of 3 columns", dice.count(2), 8);
        Due.is("the last of 8", dice.inequality(7, 0), 1);
        Due.is("behind the last of 8", dice.inequality(8, 0), ObedientDice.NO_SUCH);
    }

    @Sentence("is at least 0. The left side of it is its slack.")
    private static void slackOf0Holds() {
        ObedientDice dice = Texts.game(Games.CHICKEN);
        Games.weigh(dice, 4, 2, 2, 1);
        for (int i = 0; i < 4; i++) {
            Due.is("a slack of 0", dice.inequality(i, 3), 1000000);
        }
        Due.is("those that don't hold", dice.count(5), 0);
        Due.is("obeyed", dice.count(4), 1);
        dice.weigh(0, 0, 5);
        Due.is("a slack of -1", dice.inequality(0, 3), 999999);
        Due.is("a slack of -1", dice.inequality(2, 3), 999999);
        Due.is("those that don't hold", dice.count(5), 2);
        dice.weigh(0, 0, 3);
        Due.is("a slack of 1", dice.inequality(0, 3), 1000001);
        Due.is("those that don't hold", dice.count(5), 0);
    }

    @Sentence("Dice are obeyed if all inequalities hold.")
    private static void oneThatDoesNotHold() {
        int[][] of3 = {{0, 0, 1}, {0, 1, 0}, {1, 0, 1}, {1, 0, 2}, {1, 1, 0}, {1, 1, 2}, {1, 2, 0}, {1, 2, 1}};
        for (int broken = 0; broken < of3.length; broken++) {
            int[] names = of3[broken];
            ObedientDice dice = new ObedientDice();
            dice.begin(3);
            Due.is("obeyed", dice.count(4), 1);
            // the other move is worth 1 more in one cell, and only there
            int told = names[0] == 0 ? 3 * names[1] : names[1];
            int better = names[0] == 0 ? 3 * names[2] : names[2];
            dice.points(names[0], better / 3, better % 3, 1);
            int[] weights = new int[6];
            weights[told] = 1;
            Games.weigh(dice, weights);
            Due.is("obeyed but for one", dice.count(4), 0);
            Due.is("those that don't hold", dice.count(5), 1);
            for (int i = 0; i < of3.length; i++) {
                Due.is("slack " + i, dice.inequality(i, 3), i == broken ? 999999 : 1000000);
            }
        }
    }

    @Sentence("first those of the player 0 (told the row 0, other row 1; told 1, other 0), then those of the player 1, by the "
        + "told column, then by the other column")
    private static void orderOfInequalities() {
        ObedientDice dice = new ObedientDice();
        namesAre(dice, new int[][] {{0, 0, 1}, {0, 1, 0}, {1, 0, 1}, {1, 1, 0}});
        dice.begin(3);
        namesAre(dice,
            new int[][] {{0, 0, 1}, {0, 1, 0}, {1, 0, 1}, {1, 0, 2}, {1, 1, 0}, {1, 1, 2}, {1, 2, 0}, {1, 2, 1}});
    }

    private static void namesAre(ObedientDice dice, int[][] names) {
        for (int i = 0; i < names.length; i++) {
            for (int what = 0; what < 3; what++) {
                Due.is("inequality(" + i + ", " + what + ")", dice.inequality(i, what), names[i][what]);
            }
        }
    }

    // ---- extreme dice

    @Sentence("are all mixtures of finitely many extreme ones: those that are no mixture of two other ones")
    private static void noMixtures() {
        ObedientDice dice = new ObedientDice();
        Due.is("each cell alone, nothing else", dice.count(6), 4);
        dice.begin(3);
        Due.is("each cell alone, nothing else", dice.count(6), 6);
        Due.is("just one", Texts.game(Games.PENNIES).count(6), 1);
        dice = Texts.game(Games.BATTLE);
        Due.is("five", dice.count(6), 5);
        Games.extremeIs(dice, 0, 1, 0, 0, 0);
        Games.extremeIs(dice, 1, 5, 0, 3, 5);
        Games.extremeIs(dice, 2, 3, 5, 0, 3);
        Games.extremeIs(dice, 3, 15, 25, 9, 15);
        Games.extremeIs(dice, 4, 0, 0, 0, 1);
        // in it the inequality of the row 1 says that the weight of the cell 2 is 0
        dice = Texts.game("1,0;0,0/0,0;0,0");
        Due.is("three", dice.count(6), 3);
        Games.extremeIs(dice, 0, 1, 0, 0, 0);
        Games.extremeIs(dice, 1, 0, 1, 0, 0);
        Games.extremeIs(dice, 2, 0, 0, 0, 1);
    }

    @Sentence("Extreme dice are told with whole weights that have no common divisor above 1")
    private static void noCommonDivisor() {
        ObedientDice dice = Texts.game("9,9;0,0/0,0;9,9");
        Due.is("five", dice.count(6), 5);
        Games.extremeIs(dice, 0, 1, 0, 0, 0);
        Games.extremeIs(dice, 1, 1, 1, 0, 1);
        Games.extremeIs(dice, 2, 1, 0, 1, 1);
        Games.extremeIs(dice, 3, 1, 1, 1, 1);
        Games.extremeIs(dice, 4, 0, 0, 0, 1);
        dice = Texts.game("9,-9;-9,9/-9,9;9,-9");
        Due.is("one", dice.count(6), 1);
        Games.extremeIs(dice, 0, 1, 1, 1, 1);
    }

    @Sentence("(they can be above 999)")
    private static void weightsAbove999() {
        ObedientDice dice = Texts.game(Games.STEEP);
        Games.extremeIs(dice, 0, 1001, 910, 0, 0, 260, 220);
        Games.extremeIs(dice, 4, 1001, 910, 0, 286, 5460, 4400);
        Due.is("their sum", dice.extreme(4, 6), 12057);
    }

    @Sentence("in the order of the odds of the cell 0, the greatest ones first, of several in the order of those of the cell 1, "
        + "the greatest ones first, and so on")
    private static void orderOfExtremes() {
        ObedientDice dice = new ObedientDice();
        dice.begin(3);
        for (int cell = 0; cell < 6; cell++) {
            Due.is("tied in all cells before " + cell, dice.extreme(cell, 7), 1 << cell);
        }
        // 1 1 0 1 and 1 0 1 1 have the odds 1/3 for the cell 0, and differ for the cell 1
        dice = Texts.game("9,9;0,0/0,0;9,9");
        Due.is("the greater odds of the cell 1", dice.extreme(1, 7), 11);
        Due.is("the lower odds of the cell 1", dice.extreme(2, 7), 13);
        // 2 1 1 0 has the odds 1/2 for the cell 0, 4 2 2 1 only 4/9: it is the odds that count, not the weights
        dice = Texts.game(Games.CHICKEN);
        Games.extremeIs(dice, 0, 2, 1, 1, 0);
        Games.extremeIs(dice, 1, 4, 2, 2, 1);
        Games.extremeIs(dice, 2, 0, 1, 0, 0);
        Games.extremeIs(dice, 3, 0, 2, 2, 1);
        Games.extremeIs(dice, 4, 0, 0, 1, 0);
    }

    @Sentence("their worth for both is the sum of both worths")
    private static void worthForBoth() {
        ObedientDice dice = Texts.game("1,1;0,0/0,0;0,0");
        Games.weigh(dice, 2, 1, 0, 0);
        Due.is("2/3", dice.worth(0), 100666);
        Due.is("2/3", dice.worth(1), 100666);
        Due.is("4/3, not the rounded ones added", dice.worth(2), 101333);
        dice = Texts.game("-1,1;0,0/0,0;0,0");
        Games.weigh(dice, 2, 1, 0, 0);
        Due.is("-2/3", dice.worth(0), 99333);
        Due.is("0, not the rounded ones added", dice.worth(2), 100000);
    }

    // ---- throws

    @Sentence("A number x (1 at first) throws the dice: it becomes (x * 1103515245 + 12345) left over by 2147483648")
    private static void numberThatThrows() {
        ObedientDice dice = new ObedientDice();
        Due.is("x at first", dice.count(10), 1);
        dice.roll(1);
        Due.is("x behind 1", dice.count(10), 1103527590);
        dice.forget(0);
        dice.roll(1);
        Due.is("x behind 0", dice.count(10), 12345);
        dice.forget(2147483647);
        dice.roll(1);
        // 2147483647 does the same as -1: 2147483648 + 12345 - 1103515245
        Due.is("x behind the greatest one", dice.count(10), 1043980748);
        // 1073741824 is half of 2147483648, and the factor is odd
        dice.forget(1073741824);
        dice.roll(1);
        Due.is("x behind the half", dice.count(10), 1073754169);
        long x = 1;
        dice.forget(1);
        for (int i = 0; i < 20; i++) {
            x = (x * 1103515245L + 12345L) % 2147483648L;
            dice.roll(1);
            Due.is("x, behind " + (i + 1) + " throws", dice.count(10), x);
        }
    }

    /** Behind 1 the number x is 1103527590, so it is 16838 that is left over by the sum. */
    private static int firstThrow(int... weights) {
        return Games.with(weights).roll(1);
    }

    @Sentence("with y for (x / 65536) left over by the sum of the weights, the cell falls at which the sum of the weights of the "
        + "cells up to it, with it, first is above y")
    private static void cellThatFalls() {
        // 838 is left over by 1000
        Due.is("y is just the sum up to the cell 0", firstThrow(838, 100, 62, 0), 1);
        Due.is("y is one below it", firstThrow(839, 99, 62, 0), 0);
        Due.is("y is just the sum up to the cell 1", firstThrow(400, 438, 162, 0), 2);
        Due.is("y is one below it", firstThrow(400, 439, 161, 0), 1);
        // 16838 is 9 * 1870 + 8
        Due.is("y is the greatest one, for the last cell", firstThrow(4, 4, 0, 1), 3);
        Due.is("y is the greatest one, the last cell has no weight", firstThrow(4, 4, 1, 0), 2);
        // 16838 is even
        Due.is("y is 0, for the first cell", firstThrow(1, 1, 0, 0), 0);
        Due.is("y is 0, cells without a weight come first", firstThrow(0, 0, 0, 1, 0, 1), 3);
        Due.is("the sum is 1", firstThrow(0, 0, 1, 0), 2);
        Due.is("the sum is 5994, y is 4850", firstThrow(999, 999, 999, 999, 999, 999), 4);
        ObedientDice dice = Games.with(0, 999, 1, 0);
        dice.forget(0);
        Due.is("x is 12345, below 65536", dice.roll(1), 1);
    }

    @Sentence("with y for (x / 65536) left over by the sum of the weights")
    private static void edgesOfTheThrow() {
        // the seed, the number x that comes of it, and x / 65536
        int[][] seeds = {{2088216195, 0, 0}, {2032319262, 65535, 0}, {1742513795, 65536, 1}, {1686616862, 131071, 1},
            {1396811395, 131072, 2}, {576240414, 2147418111, 32766}, {286434947, 2147418112, 32767},
            {230538014, 2147483647, 32767}};
        for (int[] seed : seeds) {
            for (int sum : new int[] {1000, 999, 7}) {
                int y = seed[2] % sum;
                ObedientDice dice = Games.with(y, 1, sum - y - 1, 0);
                dice.forget(seed[0]);
                Due.is("the cell behind the seed " + seed[0], dice.roll(1), 1);
                Due.is("x behind the seed " + seed[0], dice.count(10), seed[1]);
            }
        }
    }

    @Sentence("Both players do as told, get their points, and the throw is counted for the cell.")
    private static void counted() {
        ObedientDice dice = Texts.game(Games.CHICKEN);
        dice.roll(1);
        Games.fallsAre(dice, 0, 0, 1, 0);
        Due.is("throws", dice.count(7), 1);
        Due.is("points of the player 0", dice.count(8), 100007);
        Due.is("points of the player 1", dice.count(9), 100002);
        dice.roll(3);
        Games.fallsAre(dice, 0, 1, 2, 1);
        Due.is("throws", dice.count(7), 4);
    }

    @Sentence("over all throws so far in which the player was told this move")
    private static void regretOfToldMoves() {
        ObedientDice dice = Texts.game(Games.CHICKEN);
        regretsAre(dice, 0, 0, 0, 0);
        Games.weigh(dice, 1, 0, 0, 0);
        dice.roll(10);
        regretsAre(dice, 10, 0, 10, 0);
        Games.weigh(dice, 0, 0, 0, 1);
        regretsAre(dice, 10, 0, 10, 0);
        dice.roll(5);
        regretsAre(dice, 10, 10, 10, 10);
        Games.weigh(dice, 0, 1, 0, 0);
        dice.roll(2);
        regretsAre(dice, 10 - 4, 10, 10, 10 - 2);
        Games.weigh(dice, 0, 0, 1, 0);
        dice.roll(1);
        regretsAre(dice, 6, 10 - 1, 10 - 2, 8);
    }

    private static void regretsAre(ObedientDice dice, int... regrets) {
        for (int i = 0; i < regrets.length; i++) {
            Due.is("regret " + i, dice.inequality(i, 4), 1000000 + regrets[i]);
        }
    }

    public static void main(String[] args) throws ReflectiveOperationException {
        Due.sentences(TermsTest.class);
    }
}
