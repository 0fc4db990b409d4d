/** The boundary cases of the promises 14 to 17: extreme dice, the best of them, moves never told, and sure cells. */
public final class DiceTest {
    private static final int NO_SUCH = ObedientDice.NO_SUCH;
    private static final int BAD_VALUE = ObedientDice.BAD_VALUE;

    private DiceTest() {
    }

    private static void bestIs(ObedientDice dice, int player, int number, int worth) {
        Due.is("best(" + player + ", 0)", dice.best(player, 0), number);
        Due.is("best(" + player + ", 1)", dice.best(player, 1), worth);
    }

    // ---- promise 14: extreme

    @Sentence("what: 0 to 5 the weight of the cell with this number")
    private static void weightsOfExtremeDice() {
        ObedientDice dice = Texts.game(Games.STEEP);
        Games.extremeIs(dice, 2, 286, 273, 11, 0, 78, 66);
        Games.extremeIs(dice, 10, 0, 0, 0, 0, 0, 1);
        dice = new ObedientDice();
        Games.extremeIs(dice, 0, 1, 0, 0, 0);
        Games.extremeIs(dice, 3, 0, 0, 0, 1);
    }

    @Sentence("6 the sum of the weights")
    private static void sumOfExtremeDice() {
        ObedientDice dice = Texts.game(Games.STEEP);
        Due.is("one cell", dice.extreme(10, 6), 1);
        Due.is("some cells", dice.extreme(2, 6), 714);
        Due.is("above 999", dice.extreme(4, 6), 12057);
        Due.is("four cells", Texts.game(Games.BATTLE).extreme(3, 6), 64);
    }

    @Sentence("7 the cells with a weight above 0, as a set")
    private static void cellsOfExtremeDice() {
        ObedientDice dice = Texts.game(Games.BATTLE);
        int[] sets = {1, 13, 11, 15, 8};
        for (int number = 0; number < sets.length; number++) {
            Due.is("extreme(" + number + ", 7)", dice.extreme(number, 7), sets[number]);
        }
        dice = Texts.game(Games.STEEP);
        Due.is("the first and the last cell", dice.extreme(0, 7), 1 + 2 + 16 + 32);
        Due.is("the last cell alone", dice.extreme(10, 7), 32);
    }

    @Sentence("8 the inequalities with the slack 0, as a set")
    private static void tightInequalities() {
        ObedientDice dice = Texts.game(Games.BATTLE);
        // told the row 0: 5 a - 3 b; the row 1: 3 d - 5 c; the column 0: 3 a - 5 c; the column 1: 5 d - 3 b
        int[] sets = {2 + 8, 2 + 4, 1 + 8, 1 + 2 + 4 + 8, 1 + 4};
        for (int number = 0; number < sets.length; number++) {
            Due.is("extreme(" + number + ", 8)", dice.extreme(number, 8), sets[number]);
        }
        Due.is("all 8", Texts.game(Games.FLAT_3).extreme(3, 8), 255);
        // just one extreme dice, from which each player would lose by any other move
        dice = Texts.game("9,9;0,0;0,0/0,0;-9,-9;-9,-9");
        Due.is("the only ones", dice.count(6), 1);
        Due.is("those of moves that are not told", dice.extreme(0, 8), 2 + 16 + 32 + 64 + 128);
    }

    @Sentence("as a set")
    private static void slacksOfTakenOnes() {
        for (String game : new String[] {Games.CHICKEN, Games.BATTLE, Games.PENNIES, Games.PRISON, Games.UP_TO_999}) {
            ObedientDice dice = Texts.game(game);
            for (int number = 0; number < dice.count(6); number++) {
                if (dice.take(number) > 0) {
                    int set = 0;
                    for (int i = 0; i < dice.count(2); i++) {
                        set |= dice.inequality(i, 3) == 1000000 ? 1 << i : 0;
                    }
                    Due.is("extreme(" + number + ", 8) of " + game, dice.extreme(number, 8), set);
                    Due.is("obeyed", dice.count(4), 1);
                }
            }
        }
    }

    @Sentence("NO_SUCH if there are no such ones")
    private static void noExtremeDice() {
        ObedientDice dice = Texts.game(Games.STEEP);
        for (int number : new int[] {11, 12, 127, 128, -1, Integer.MIN_VALUE, Integer.MAX_VALUE}) {
            for (int what = 0; what < 9; what++) {
                Due.is("extreme(" + number + ", " + what + ")", dice.extreme(number, what), NO_SUCH);
            }
        }
        dice.begin(2);
        Due.is("the last ones of another game", dice.extreme(3, 3), 1);
        Due.is("behind them", dice.extreme(4, 3), NO_SUCH);
        dice.begin(3);
        Due.is("the last ones of a third game", dice.extreme(5, 5), 1);
        Due.is("behind them", dice.extreme(6, 5), NO_SUCH);
    }

    @Sentence("BAD_VALUE if what is out of range (also if it is a cell that there is not).")
    private static void extremeOutOfRange() {
        ObedientDice dice = new ObedientDice();
        for (int what : new int[] {9, 10, -1, Integer.MIN_VALUE, Integer.MAX_VALUE}) {
            Due.is("extreme(0, " + what + ")", dice.extreme(0, what), BAD_VALUE);
            Due.is("extreme(3, " + what + ")", dice.extreme(3, what), BAD_VALUE);
        }
        Due.is("the last cell of 4", dice.extreme(0, 3), 0);
        Due.is("a fifth cell of 4", dice.extreme(0, 4), BAD_VALUE);
        Due.is("a sixth cell of 4", dice.extreme(0, 5), BAD_VALUE);
        Due.is("the sum, behind them", dice.extreme(0, 6), 1);
        Due.is("the last value", dice.extreme(0, 8), 15);
        dice.begin(3);
        Due.is("the last cell of 6", dice.extreme(0, 5), 0);
        Due.is("the last value", dice.extreme(0, 8), 255);
        Due.is("behind it", dice.extreme(0, 9), BAD_VALUE);
        dice.undo();
        Due.is("a fifth cell of 4 again", dice.extreme(0, 4), BAD_VALUE);
    }

    @Sentence("extreme dice; nothing changes")
    private static void goWithTheGame() {
        ObedientDice dice = Texts.game(Games.CHICKEN);
        Games.extremeIs(dice, 0, 2, 1, 1, 0);
        dice.save(0);
        dice.begin(2);
        Games.extremeIs(dice, 0, 1, 0, 0, 0);
        dice.undo();
        Games.extremeIs(dice, 0, 2, 1, 1, 0);
        dice.points(0, 0, 0, 9);
        Due.is("other points", dice.count(6), 1);
        Texts.put(dice, Games.BATTLE);
        dice.read();
        Games.extremeIs(dice, 1, 5, 0, 3, 5);
        dice.restore(0);
        Games.extremeIs(dice, 1, 4, 2, 2, 1);
        dice.weigh(0, 0, 77);
        Games.extremeIs(dice, 1, 4, 2, 2, 1);
        Due.is("changes", dice.count(12), 5);
    }

    /** All extreme dice, as a text: at most 100 calls. */
    private static String all(ObedientDice dice) {
        StringBuilder text = new StringBuilder();
        for (int number = 0; number < dice.count(6); number++) {
            for (int what = 0; what < 9; what++) {
                text.append(dice.extreme(number, what)).append(what == 8 ? '\n' : ' ');
            }
        }
        return text.toString();
    }

    @Sentence("The dice of a game that are obeyed")
    private static void goWithEachPoint() {
        for (int player = 0; player < 2; player++) {
            for (int cell = 0; cell < 6; cell++) {
                ObedientDice dice = Texts.game(Games.FLAT_3);
                String flat = all(dice);
                ObedientDice fresh = new ObedientDice();
                fresh.begin(3);
                fresh.points(player, cell / 3, cell % 3, 5);
                dice.points(player, cell / 3, cell % 3, 5);
                Due.is("all, with points in the cell " + cell, all(dice), all(fresh));
                Due.is("other ones then", all(dice).equals(flat) ? 1 : 0, 0);
                dice.points(player, cell / 3, cell % 3, 0);
                Due.is("all, without them again", all(dice), flat);
            }
        }
    }

    @Sentence("The dice of a game that are obeyed")
    private static void goWithGamesThatAreRead() {
        String[] games = {Games.STEEP, Games.FLAT_2, Games.PENNIES, Games.UP_TO_999, Games.PRISON, Games.FLAT_3};
        for (String one : games) {
            for (String another : games) {
                ObedientDice dice = Texts.game(one);
                dice.count(6);
                Texts.put(dice, another);
                dice.read();
                Due.is("all of " + another + " behind " + one, all(dice), all(Texts.game(another)));
                Due.is("the best of it", dice.best(0, 0), Texts.game(another).best(0, 0));
            }
        }
    }

    @Sentence("are all mixtures of finitely many extreme ones")
    private static void fewOfManySides() {
        // a is at most 2 b and 3 d, e at most b / 3 and d / 2, and c and f are 0
        ObedientDice dice = Texts.game("1,1;1,2;0,0/2,1;-1,-2;0,-1");
        Due.is("five", dice.count(6), 5);
        Games.extremeIs(dice, 0, 6, 3, 0, 2, 0, 0);
        Games.extremeIs(dice, 1, 6, 3, 0, 2, 1, 0);
        Games.extremeIs(dice, 2, 0, 1, 0, 0, 0, 0);
        Games.extremeIs(dice, 3, 0, 3, 0, 2, 1, 0);
        Games.extremeIs(dice, 4, 0, 0, 0, 1, 0, 0);
        Due.is("the column 2", dice.neverTold(1), 4);
    }

    // ---- promise 15: best

    @Sentence("of several the ones with the lowest number")
    private static void lowestOfSeveral() {
        bestIs(new ObedientDice(), 2, 0, 100000);
        bestIs(Texts.game(Games.FLAT_3), 1, 0, 100000);
        bestIs(Texts.game("9,9;0,0/0,0;9,9"), 2, 0, 118000);
        // 2 and 4 of five, the cells 1 and 2, have the worth -3 for the player 0
        bestIs(Texts.game("-6,-7;-3,-6/-3,4;-8,-8"), 0, 2, 97000);
        // 8 and 10 of eleven, the cells 2 and 4, have the worth 7 for the player 0
        bestIs(Texts.game("2,2;-5,-6;7,3/-5,-3;7,6;-2,-6"), 0, 8, 107000);
    }

    @Sentence("Finds the extreme dice with the greatest worth for a player, or for both")
    private static void greatestWorth() {
        ObedientDice dice = Texts.game(Games.CHICKEN);
        bestIs(dice, 0, 4, 107000);
        bestIs(dice, 1, 2, 107000);
        bestIs(dice, 2, 0, 110500);
        bestIs(Texts.game(Games.BATTLE), 1, 4, 105000);
        // 0 has the worth 2059/627, 3.28389; 1 has 23/7, 3.28571: the greater one has the higher number
        bestIs(Texts.game("2,3;9,-6;-2,4/4,-5;-1,2;-6,-9"), 2, 1, 103285);
    }

    @Sentence("with the greatest worth")
    private static void greatestBeforeRounding() {
        // 0 has the worth 7371/985, 7.48325; 1 has 681/91, 7.48352
        ObedientDice dice = Texts.game("0,9;-9,-9;4,7/9,-6;2,0;0,-1");
        Games.extremeIs(dice, 0, 220, 0, 495, 0, 72, 198);
        Games.extremeIs(dice, 1, 20, 0, 45, 8, 0, 18);
        bestIs(dice, 2, 1, 107483);
        dice.take(0);
        Due.is("rounded, the other one is as good", dice.worth(2), 107483);
    }

    @Sentence("1 1000 * the worth, and 100000")
    private static void bestWorth() {
        ObedientDice dice = new ObedientDice();
        Games.allPoints(dice, 0, -9);
        Games.allPoints(dice, 1, 9);
        bestIs(dice, 0, 0, 91000);
        bestIs(dice, 1, 0, 109000);
        bestIs(dice, 2, 0, 100000);
        Games.allPoints(dice, 0, 9);
        bestIs(dice, 2, 0, 118000);
        // four extreme dice of worths below 0, behind eleven of another game
        dice = Texts.game(Games.STEEP);
        Due.is("of eleven", dice.best(0, 0), 10);
        Texts.put(dice, "-9,-9;-9,-9/-9,-9;-9,-9");
        dice.read();
        bestIs(dice, 0, 0, 91000);
        bestIs(dice, 2, 0, 82000);
        // the only extreme dice are 2 1 2 1: -2/6 for the player 0, 0 for the other one
        dice = Texts.game("0,-1;-1,1/-1,1;1,-1");
        bestIs(dice, 0, 0, 99666);
        bestIs(dice, 1, 0, 100000);
        bestIs(dice, 2, 0, 99666);
    }

    @Sentence("BAD_VALUE if an argument is out of range.")
    private static void bestOutOfRange() {
        ObedientDice dice = new ObedientDice();
        for (int player : new int[] {3, 4, -1, Integer.MIN_VALUE, Integer.MAX_VALUE}) {
            Due.is("best(" + player + ", 0)", dice.best(player, 0), BAD_VALUE);
            Due.is("best(" + player + ", 1)", dice.best(player, 1), BAD_VALUE);
        }
        for (int what : new int[] {2, 3, -1, Integer.MIN_VALUE, Integer.MAX_VALUE}) {
            for (int player = 0; player < 3; player++) {
                Due.is("best(" + player + ", " + what + ")", dice.best(player, what), BAD_VALUE);
            }
        }
    }

    // ---- promise 16: neverTold

    @Sentence("the moves in whose cells all extreme dice have the weight 0")
    private static void movesNeverTold() {
        ObedientDice dice = new ObedientDice();
        Due.is("no row", dice.neverTold(0), 0);
        Due.is("no column", dice.neverTold(1), 0);
        dice = Texts.game(Games.PRISON);
        Due.is("the row 0", dice.neverTold(0), 1);
        Due.is("the column 0", dice.neverTold(1), 1);
        // the row 1 is told by the extreme dice of the cell 3 alone
        dice = Texts.game("1,0;0,0/0,0;0,0");
        Due.is("no row", dice.neverTold(0), 0);
        Due.is("no column", dice.neverTold(1), 0);
        dice.points(0, 0, 1, 1);
        Due.is("the row 1", dice.neverTold(0), 2);
        Due.is("no column", dice.neverTold(1), 0);
        dice = Texts.game("0,0;0,1;0,2/0,0;0,1;0,2");
        Due.is("no row", dice.neverTold(0), 0);
        Due.is("all columns but the last one", dice.neverTold(1), 3);
        dice = Texts.game("9,9;0,0;0,0/0,0;-9,-9;-9,-9");
        Due.is("the row 1", dice.neverTold(0), 2);
        Due.is("all columns but the first one", dice.neverTold(1), 6);
        // no cell is sure, and yet each move is told
        dice = Texts.game(Games.PENNIES);
        Due.is("no row", dice.neverTold(0), 0);
        Due.is("no column", dice.neverTold(1), 0);
    }

    @Sentence("NO_SUCH if there is no such player.")
    private static void neverToldToNobody() {
        ObedientDice dice = Texts.game(Games.PRISON);
        for (int player : new int[] {2, 3, -1, Integer.MIN_VALUE, Integer.MAX_VALUE}) {
            Due.is("neverTold(" + player + ")", dice.neverTold(player), NO_SUCH);
        }
    }

    // ---- promise 17: sure

    @Sentence("those from which no player would gain by another move.")
    private static void sureCells() {
        ObedientDice dice = new ObedientDice();
        Due.is("all of 4", dice.sure(), 15);
        dice.begin(3);
        Due.is("all of 6", dice.sure(), 63);
        dice.points(0, 1, 1, 1);
        Due.is("all but one", dice.sure(), 63 - 2);
        dice.points(1, 1, 0, -1);
        Due.is("all but two", dice.sure(), 63 - 2 - 8);
        Due.is("none", Texts.game(Games.PENNIES).sure(), 0);
        Due.is("the last cell", Texts.game(Games.PRISON).sure(), 8);
        Due.is("two", Texts.game(Games.CHICKEN).sure(), 6);
        Due.is("the last of 6 cells", Texts.game(Games.STEEP).sure(), 32);
        // the weights of now don't matter
        Due.is("all", Games.with(1, 0, 0, 0).sure(), 15);
    }

    public static void main(String[] args) throws ReflectiveOperationException {
        Due.sentences(DiceTest.class);
    }
}
