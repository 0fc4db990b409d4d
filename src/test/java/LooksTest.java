/** The boundary cases of the promises 10 to 13: cells, inequalities, numbers, and worths. */
public final class LooksTest {
    private static final int NO_SUCH = ObedientDice.NO_SUCH;
    private static final int BAD_VALUE = ObedientDice.BAD_VALUE;

    private LooksTest() {
    }

    // ---- promise 10: cell

    @Sentence("what: 0, 1 the points of the players 0 and 1, and 100")
    private static void pointsOfACell() {
        ObedientDice dice = new ObedientDice();
        Due.is("none", dice.cell(1, 1, 0), 100);
        dice.points(0, 1, 1, -9);
        dice.points(1, 1, 1, 9);
        Due.is("the least", dice.cell(1, 1, 0), 91);
        Due.is("the most", dice.cell(1, 1, 1), 109);
    }

    @Sentence("2 its weight")
    private static void weightOfACell() {
        ObedientDice dice = Games.with(0, 999, 1, 0, 0, 500);
        Due.is("the least", dice.cell(0, 0, 2), 0);
        Due.is("the most", dice.cell(0, 1, 2), 999);
        Due.is("the last one", dice.cell(1, 2, 2), 500);
    }

    @Sentence("3 how often it fell")
    private static void fallsOfACell() {
        ObedientDice dice = Games.with(0, 0, 0, 0, 0, 3);
        Due.is("never", dice.cell(1, 2, 3), 0);
        Games.rollTo(dice, 1000);
        Due.is("the most", dice.cell(1, 2, 3), 1000);
        Due.is("another one", dice.cell(1, 1, 3), 0);
    }

    @Sentence("4 whether no player would gain by another move from it, if it was told for sure (1 or 0)")
    private static void sureCell() {
        ObedientDice dice = new ObedientDice();
        dice.begin(3);
        Due.is("nobody would gain by as much", dice.cell(0, 0, 4), 1);
        dice.points(0, 1, 0, 1);
        Due.is("the player 0 would gain", dice.cell(0, 0, 4), 0);
        dice.points(0, 0, 0, 1);
        Due.is("the player 0 wouldn't gain any more", dice.cell(0, 0, 4), 1);
        dice.points(1, 0, 2, -8);
        dice.points(1, 0, 1, -9);
        dice.points(1, 0, 0, -9);
        Due.is("the player 1 would gain by the column 2", dice.cell(0, 0, 4), 0);
        Due.is("the player 1 would gain from the column 1, too", dice.cell(0, 1, 4), 0);
        Due.is("nobody would gain from the column 2", dice.cell(0, 2, 4), 1);
        dice.points(1, 0, 0, -8);
        Due.is("nobody would gain by as much", dice.cell(0, 0, 4), 1);
        Due.is("by what players get in the other row, nobody gains", dice.cell(1, 2, 4), 1);
    }

    @Sentence("5 whether it has a weight above 0 in some extreme dice (1 or 0)")
    private static void toldCell() {
        ObedientDice dice = Texts.game("1,0;0,0/0,0;0,0");
        int[] told = {1, 1, 0, 1};
        for (int cell = 0; cell < 4; cell++) {
            Due.is("told", dice.cell(cell / 2, cell % 2, 5), told[cell]);
        }
        dice = Texts.game(Games.PRISON);
        for (int cell = 0; cell < 4; cell++) {
            Due.is("told", dice.cell(cell / 2, cell % 2, 5), cell / 3);
        }
        // no cell is sure here, but each is told
        dice = Texts.game(Games.PENNIES);
        for (int cell = 0; cell < 4; cell++) {
            Due.is("told", dice.cell(cell / 2, cell % 2, 5), 1);
            Due.is("sure", dice.cell(cell / 2, cell % 2, 4), 0);
        }
        // the weights of now don't matter
        dice = Games.with(1, 0, 0, 0, 0, 0);
        Due.is("told", dice.cell(1, 2, 5), 1);
    }

    @Sentence("Returns the number; NO_SUCH if there is no such row or column")
    private static void cellOfNone() {
        ObedientDice dice = new ObedientDice();
        for (int wrong : new int[] {2, 3, -1, Integer.MIN_VALUE, Integer.MAX_VALUE}) {
            for (int what = 0; what < 6; what++) {
                Due.is("cell(" + wrong + ", 0, ..)", dice.cell(wrong, 0, what), NO_SUCH);
                Due.is("cell(0, " + wrong + ", ..)", dice.cell(0, wrong, what), NO_SUCH);
            }
        }
        dice.begin(3);
        Due.is("cell(1, 2, 2)", dice.cell(1, 2, 2), 1);
        Due.is("cell(1, 3, 2)", dice.cell(1, 3, 2), NO_SUCH);
        Due.is("cell(2, 2, 2)", dice.cell(2, 2, 2), NO_SUCH);
        dice.begin(2);
        Due.is("cell(1, 2, 2) of two columns", dice.cell(1, 2, 2), NO_SUCH);
    }

    @Sentence("BAD_VALUE if what is out of range.")
    private static void cellOutOfRange() {
        ObedientDice dice = new ObedientDice();
        for (int what : new int[] {6, 7, -1, Integer.MIN_VALUE, Integer.MAX_VALUE}) {
            Due.is("cell(1, 1, " + what + ")", dice.cell(1, 1, what), BAD_VALUE);
        }
        Due.is("the last one", dice.cell(1, 1, 5), 1);
    }

    // ---- promise 11: inequality

    @Sentence("0 its player, 1 the told move, 2 the other move")
    private static void namesOfAnInequality() {
        ObedientDice dice = new ObedientDice();
        Due.is("the told move of the last of 4", dice.inequality(3, 1), 1);
        Due.is("the other move of the last of 4", dice.inequality(3, 2), 0);
        dice.begin(3);
        Due.is("the told move of the same", dice.inequality(3, 1), 0);
        Due.is("the other move of the same", dice.inequality(3, 2), 2);
        Due.is("the told move of the last of 8", dice.inequality(7, 1), 2);
        Due.is("the other move of the last of 8", dice.inequality(7, 2), 1);
        Due.is("the last one of the player 0", dice.inequality(1, 0), 0);
        Due.is("the first one of the player 1", dice.inequality(2, 0), 1);
    }

    /** What the player 0 gets in the row 0 is 9, in the row 1 it is -9; all weights are 999. */
    private static ObedientDice utmost() {
        ObedientDice dice = Games.with(999, 999, 999, 999, 999, 999);
        for (int column = 0; column < 3; column++) {
            dice.points(0, 0, column, 9);
            dice.points(0, 1, column, -9);
        }
        return dice;
    }

    @Sentence("3 its slack by the dice, and 1000000")
    private static void slacks() {
        ObedientDice dice = utmost();
        Due.is("the greatest", dice.inequality(0, 3), 1053946);
        Due.is("the least", dice.inequality(1, 3), 946054);
        for (int i = 2; i < 8; i++) {
            Due.is("0", dice.inequality(i, 3), 1000000);
        }
        for (int row = 0; row < 2; row++) {
            dice.points(1, row, 2, 9);
            dice.points(1, row, 0, -9);
        }
        Due.is("told 0, other 1", dice.inequality(2, 3), 1000000 - 2 * 999 * 9);
        Due.is("told 0, other 2", dice.inequality(3, 3), 1000000 - 2 * 999 * 18);
        Due.is("told 1, other 0", dice.inequality(4, 3), 1000000 + 2 * 999 * 9);
        Due.is("told 1, other 2", dice.inequality(5, 3), 1000000 - 2 * 999 * 9);
        Due.is("told 2, other 0", dice.inequality(6, 3), 1000000 + 2 * 999 * 18);
        Due.is("told 2, other 1", dice.inequality(7, 3), 1000000 + 2 * 999 * 9);
        dice.weigh(0, 2, 0);
        dice.weigh(1, 2, 0);
        Due.is("the told move has no weight", dice.inequality(6, 3), 1000000);
    }

    @Sentence("4 the regret by what was thrown, and 1000000")
    private static void regrets() {
        ObedientDice dice = utmost();
        Due.is("nothing is thrown", dice.inequality(1, 4), 1000000);
        Games.weigh(dice, 0, 0, 0, 0, 0, 1);
        Games.rollTo(dice, 1000);
        Due.is("the greatest", dice.inequality(1, 4), 1018000);
        Due.is("the move was never told", dice.inequality(0, 4), 1000000);
        for (int column = 0; column < 3; column++) {
            dice.points(0, 0, column, -9);
            dice.points(0, 1, column, 9);
        }
        Due.is("the least", dice.inequality(1, 4), 982000);
        dice.points(1, 1, 0, 5);
        dice.points(1, 1, 1, -3);
        dice.points(1, 1, 2, 1);
        Due.is("told 2, other 0", dice.inequality(6, 4), 1004000);
        Due.is("told 2, other 1", dice.inequality(7, 4), 996000);
        Due.is("told 1, other 2", dice.inequality(5, 4), 1000000);
    }

    @Sentence("NO_SUCH if there is no such inequality")
    private static void noInequality() {
        ObedientDice dice = new ObedientDice();
        for (int wrong : new int[] {4, 5, 7, 8, -1, Integer.MIN_VALUE, Integer.MAX_VALUE}) {
            for (int what = 0; what < 5; what++) {
                Due.is("inequality(" + wrong + ", " + what + ")", dice.inequality(wrong, what), NO_SUCH);
            }
        }
        dice.begin(3);
        Due.is("inequality(4, 1)", dice.inequality(4, 1), 1);
        Due.is("inequality(7, 1)", dice.inequality(7, 1), 2);
        Due.is("inequality(8, 1)", dice.inequality(8, 1), NO_SUCH);
        Due.is("inequality(-1, 1)", dice.inequality(-1, 1), NO_SUCH);
    }

    @Sentence("BAD_VALUE if what is out of range.")
    private static void inequalityOutOfRange() {
        ObedientDice dice = new ObedientDice();
        for (int what : new int[] {5, 6, -1, Integer.MIN_VALUE, Integer.MAX_VALUE}) {
            Due.is("inequality(0, " + what + ")", dice.inequality(0, what), BAD_VALUE);
            Due.is("inequality(3, " + what + ")", dice.inequality(3, what), BAD_VALUE);
        }
        Due.is("the last one", dice.inequality(3, 4), 1000000);
    }

    // ---- promise 12: count

    @Sentence("0 columns, 1 cells, 2 inequalities")
    private static void sizes() {
        ObedientDice dice = new ObedientDice();
        Due.is("2 columns", dice.count(0), 2);
        Due.is("4 cells", dice.count(1), 4);
        Due.is("4 inequalities", dice.count(2), 4);
        dice.begin(3);
        Due.is("3 columns", dice.count(0), 3);
        Due.is("6 cells", dice.count(1), 6);
        Due.is("8 inequalities", dice.count(2), 8);
        dice.undo();
        Due.is("2 columns again", dice.count(0), 2);
        Due.is("4 cells again", dice.count(1), 4);
        Due.is("4 inequalities again", dice.count(2), 4);
    }

    @Sentence("3 the sum of the weights")
    private static void sums() {
        ObedientDice dice = Games.with(999, 999, 999, 999, 999, 999);
        Due.is("the greatest", dice.count(3), 5994);
        dice.begin(3);
        Due.is("of a new game", dice.count(3), 6);
        Due.is("the least", Games.with(0, 0, 1, 0).count(3), 1);
        Due.is("of all four cells", Games.with(1, 20, 300, 4).count(3), 325);
    }

    @Sentence("4 whether the dice are obeyed (1 or 0), 5 inequalities that do not hold")
    private static void obeyed() {
        ObedientDice dice = new ObedientDice();
        Due.is("all slacks are 0", dice.count(4), 1);
        Due.is("none", dice.count(5), 0);
        dice = Texts.game(Games.CHICKEN);
        Games.weigh(dice, 1, 0, 0, 1);
        Due.is("not obeyed", dice.count(4), 0);
        Due.is("all", dice.count(5), 4);
        Games.weigh(dice, 5, 2, 3, 1);
        Due.is("just one does not hold", dice.count(5), 1);
        Due.is("not obeyed", dice.count(4), 0);
        dice = Texts.game(Games.PENNIES);
        Due.is("the only dice that are obeyed", dice.count(4), 1);
        dice.weigh(1, 1, 2);
        Due.is("a little beside them", dice.count(4), 0);
    }

    @Sentence("6 extreme dice")
    private static void extremes() {
        Due.is("the fewest", Texts.game(Games.PENNIES).count(6), 1);
        Due.is("of a new object", new ObedientDice().count(6), 4);
        Due.is("five", Texts.game(Games.BATTLE).count(6), 5);
        Due.is("of a new game of 3 columns", Texts.game(Games.FLAT_3).count(6), 6);
        Due.is("eleven", Texts.game(Games.STEEP).count(6), 11);
    }

    @Sentence("7 throws")
    private static void countOfThrows() {
        ObedientDice dice = new ObedientDice();
        Due.is("none", dice.count(7), 0);
        Games.rollTo(dice, 1000);
        Due.is("the most", dice.count(7), 1000);
        dice.roll(1);
        Due.is("the most", dice.count(7), 1000);
    }

    @Sentence("8, 9 points of the players 0 and 1 by what was thrown, by the points of now, and 100000")
    private static void pointsByThrows() {
        ObedientDice dice = new ObedientDice();
        Games.allPoints(dice, 0, 9);
        Games.allPoints(dice, 1, -9);
        Due.is("of the player 0, nothing is thrown", dice.count(8), 100000);
        Due.is("of the player 1, nothing is thrown", dice.count(9), 100000);
        Games.rollTo(dice, 1000);
        Due.is("the most", dice.count(8), 109000);
        Due.is("the least", dice.count(9), 91000);
        dice.points(0, 0, 0, 8);
        Due.is("by the points of now", dice.count(8), 109000 - Games.falls(dice, 0));
    }

    @Sentence("10 the number that throws")
    private static void numberThatThrows() {
        ObedientDice dice = new ObedientDice();
        Due.is("at first", dice.count(10), 1);
        dice.forget(0);
        Due.is("the least", dice.count(10), 0);
        dice.forget(2147483647);
        Due.is("the greatest", dice.count(10), 2147483647);
    }

    @Sentence("11 the length of the pad")
    private static void lengthOfThePad() {
        ObedientDice dice = new ObedientDice();
        Due.is("empty", dice.count(11), 0);
        Texts.put(dice, "1".repeat(60));
        Due.is("full", dice.count(11), 60);
        dice.put(49);
        Due.is("full", dice.count(11), 60);
        dice.wipe();
        Due.is("empty", dice.count(11), 0);
    }

    @Sentence("12 how many changes can be undone")
    private static void changesToUndo() {
        ObedientDice dice = new ObedientDice();
        for (int changes = 0; changes < 9; changes++) {
            Due.is("changes", dice.count(12), Math.min(6, changes));
            dice.weigh(0, 0, changes);
        }
        for (int left = 6; left > 0; left--) {
            Due.is("changes", dice.count(12), left);
            dice.undo();
        }
        Due.is("none", dice.count(12), 0);
        dice.undo();
        Due.is("none", dice.count(12), 0);
    }

    @Sentence("BAD_VALUE if what is out of range.")
    private static void countOutOfRange() {
        ObedientDice dice = new ObedientDice();
        for (int what : new int[] {13, 14, -1, -12, Integer.MIN_VALUE, Integer.MAX_VALUE}) {
            Due.is("count(" + what + ")", dice.count(what), BAD_VALUE);
        }
    }

    // ---- promise 13: worth

    @Sentence("player: 0, 1, or 2: for both")
    private static void worthOfEach() {
        ObedientDice dice = Games.with(999, 999, 999, 999, 999, 999);
        Games.allPoints(dice, 0, 9);
        Games.allPoints(dice, 1, -9);
        Due.is("the greatest of one", dice.worth(0), 109000);
        Due.is("the least of one", dice.worth(1), 91000);
        Due.is("both", dice.worth(2), 100000);
        Games.allPoints(dice, 1, 9);
        Due.is("the greatest of both", dice.worth(2), 118000);
        Games.allPoints(dice, 0, -9);
        Games.allPoints(dice, 1, -9);
        Due.is("the least of both", dice.worth(2), 82000);
    }

    @Sentence("Returns 1000 * the worth, and 100000")
    private static void worthInThousandths() {
        ObedientDice dice = Texts.game("1,-1;0,0/0,0;0,1");
        Due.is("1/4", dice.worth(0), 100250);
        Due.is("0", dice.worth(1), 100000);
        Games.weigh(dice, 1, 1, 1, 0);
        Due.is("1/3", dice.worth(0), 100333);
        Due.is("-1/3", dice.worth(1), 99666);
        Games.weigh(dice, 1, 999, 999, 2);
        Due.is("1/2001, below a thousandth", dice.worth(0), 100000);
        Due.is("1/2001, below a thousandth", dice.worth(1), 100000);
        Games.weigh(dice, 2, 999, 999, 1);
        Due.is("2/2001, just below a thousandth", dice.worth(0), 100000);
        Due.is("-1/2001", dice.worth(1), 99999);
        Games.weigh(dice, 2, 999, 999, 0);
        Due.is("2/2000, just a thousandth", dice.worth(0), 100001);
        Due.is("-2/2000", dice.worth(1), 99999);
        Games.weigh(dice, 2, 999, 998, 0);
        Due.is("-2/1999", dice.worth(1), 99998);
    }

    @Sentence("BAD_VALUE if player is out of range.")
    private static void worthOfNobody() {
        ObedientDice dice = new ObedientDice();
        for (int player : new int[] {3, 4, -1, Integer.MIN_VALUE, Integer.MAX_VALUE}) {
            Due.is("worth(" + player + ")", dice.worth(player), BAD_VALUE);
        }
    }

    public static void main(String[] args) throws ReflectiveOperationException {
        Due.sentences(LooksTest.class);
    }
}
