/** The promises, one method each: ordinary inputs, the edges that the document names, and wrong inputs. */
public final class PromisesTest {
    private static final int NO_SUCH = ObedientDice.NO_SUCH;
    private static final int BAD_VALUE = ObedientDice.BAD_VALUE;
    private static final int BAD_TEXT = ObedientDice.BAD_TEXT;
    private static final int TOO_MANY = ObedientDice.TOO_MANY;
    private static final int NOT_POSSIBLE = ObedientDice.NOT_POSSIBLE;
    private static final int NONE = ObedientDice.NONE;

    private static final int[] WRONG = {Integer.MIN_VALUE, -1, Integer.MAX_VALUE};

    private PromisesTest() {
    }

    private static void weights(String when, ObedientDice dice, int... weights) {
        int columns = dice.count(0);
        Due.is("cells " + when, dice.count(1), weights.length);
        for (int i = 0; i < weights.length; i++) {
            Due.is("weight " + i + " " + when, dice.cell(i / columns, i % columns, 2), weights[i]);
        }
    }

    private static void newObject() {
        ObedientDice dice = new ObedientDice();
        weights("of a new object", dice, 1, 1, 1, 1);
        int[] counts = {2, 4, 4, 4, 1, 0, 4, 0, 100000, 100000, 1, 0, 0};
        for (int what = 0; what < counts.length; what++) {
            Due.is("new count(" + what + ")", dice.count(what), counts[what]);
        }
        for (int cell = 0; cell < 4; cell++) {
            Due.is("new points 0", dice.cell(cell / 2, cell % 2, 0), 100);
            Due.is("new points 1", dice.cell(cell / 2, cell % 2, 1), 100);
            Due.is("new falls", dice.cell(cell / 2, cell % 2, 3), 0);
        }
        Due.is("new restore(0)", dice.restore(0), NOT_POSSIBLE);
        Due.is("new undo()", dice.undo(), NOT_POSSIBLE);
    }

    private static void begin() {
        ObedientDice dice = Texts.game(Games.CHICKEN);
        dice.weigh(0, 0, 9);
        dice.roll(5);
        int thrower = dice.count(10);
        Texts.put(dice, "1,");
        Due.is("begin(3)", dice.begin(3), 2);
        weights("after begin(3)", dice, 1, 1, 1, 1, 1, 1);
        Due.is("throws after begin", dice.count(7), 0);
        Due.is("falls after begin", dice.cell(0, 0, 3), 0);
        Due.is("thrower after begin", dice.count(10), thrower);
        Due.is("pad after begin", dice.count(11), 2);
        Due.is("points after begin", dice.cell(0, 0, 0), 100);
        Due.is("points after begin", dice.cell(0, 1, 1), 100);
        Due.is("cell in the third column", dice.cell(1, 2, 2), 1);
        Due.is("begin(3) again", dice.begin(3), 3);
        Due.is("begin(2)", dice.begin(2), 3);
        weights("after begin(2)", dice, 1, 1, 1, 1);
        int changes = dice.count(12);
        for (int columns : new int[] {1, 4, 0, -2, Integer.MIN_VALUE, Integer.MAX_VALUE}) {
            Due.is("begin(" + columns + ")", dice.begin(columns), BAD_VALUE);
        }
        Due.is("changes after wrong begins", dice.count(12), changes);
        Due.is("columns after wrong begins", dice.count(0), 2);
    }

    private static void points() {
        ObedientDice dice = new ObedientDice();
        dice.begin(3);
        Due.is("points to 9", dice.points(1, 1, 2, 9), 100);
        Due.is("points to -9", dice.points(1, 1, 2, -9), 109);
        Due.is("points the same", dice.points(1, 1, 2, -9), 91);
        Due.is("changes", dice.count(12), 4);
        Due.is("points of the other player", dice.cell(1, 2, 0), 100);
        Due.is("points above", dice.points(0, 0, 0, 10), BAD_VALUE);
        Due.is("points below", dice.points(0, 0, 0, -10), BAD_VALUE);
        for (int wrong : WRONG) {
            Due.is("points, wrong player", dice.points(wrong, 0, 0, 10), NO_SUCH);
            Due.is("points, wrong row", dice.points(0, wrong, 0, 10), NO_SUCH);
            Due.is("points, wrong column", dice.points(0, 0, wrong, 10), NO_SUCH);
        }
        Due.is("points, both", dice.points(2, 0, 0, 0), NO_SUCH);
        Due.is("points, third column", dice.points(0, 0, 2, 1), 100);
        Due.is("points, fourth column", dice.points(0, 0, 3, 1), NO_SUCH);
        Due.is("changes after wrong ones", dice.count(12), 5);
        dice.begin(2);
        Due.is("points, no third column", dice.points(0, 0, 2, 1), NO_SUCH);
        dice.roll(8);
        dice.points(0, 1, 0, 7);
        Due.is("thrown stays", dice.count(7), 8);
        Due.is("points of now", dice.count(8), 100000 + 7 * dice.cell(1, 0, 3));
    }

    private static void weigh() {
        ObedientDice dice = new ObedientDice();
        Due.is("weigh 999", dice.weigh(1, 0, 999), 1);
        Due.is("weigh 0", dice.weigh(1, 0, 0), 999);
        weights("after weigh", dice, 1, 1, 0, 1);
        Due.is("weigh 1000", dice.weigh(0, 0, 1000), BAD_VALUE);
        Due.is("weigh -1", dice.weigh(0, 0, -1), BAD_VALUE);
        Due.is("weigh, third column", dice.weigh(0, 2, 1000), NO_SUCH);
        for (int wrong : WRONG) {
            Due.is("weigh, wrong row", dice.weigh(wrong, 0, -1), NO_SUCH);
            Due.is("weigh, wrong column", dice.weigh(0, wrong, -1), NO_SUCH);
            Due.is("weigh, wrong weight", dice.weigh(0, 0, wrong), BAD_VALUE);
        }
        Due.is("weigh", dice.weigh(0, 0, 0), 1);
        Due.is("weigh", dice.weigh(0, 1, 0), 1);
        Due.is("changes", dice.count(12), 4);
        Due.is("weigh the last one", dice.weigh(1, 1, 0), NOT_POSSIBLE);
        Due.is("weigh one that is 0", dice.weigh(0, 0, 0), 0);
        Due.is("weigh the last one", dice.weigh(1, 1, 5), 1);
        Due.is("changes", dice.count(12), 6);
    }

    private static void take() {
        ObedientDice dice = Texts.game(Games.STEEP);
        Due.is("take, above 999", dice.take(0), TOO_MANY);
        Due.is("take, above 999", dice.take(4), TOO_MANY);
        weights("after no take", dice, 1, 1, 1, 1, 1, 1);
        Due.is("take(2)", dice.take(2), 714);
        weights("after take(2)", dice, 286, 273, 11, 0, 78, 66);
        Due.is("obeyed", dice.count(4), 1);
        Due.is("take(11)", dice.take(11), NO_SUCH);
        for (int wrong : WRONG) {
            Due.is("take, wrong number", dice.take(wrong), NO_SUCH);
        }
        Due.is("changes", dice.count(12), 2);
        Due.is("take(10)", dice.take(10), 1);
    }

    private static void mix() {
        ObedientDice dice = Texts.game(Games.CHICKEN);
        Games.extremeIs(dice, 1, 4, 2, 2, 1);
        Due.is("mix(1, 3, 2)", dice.mix(1, 3, 2), 30);
        weights("after mix", dice, 11, 7, 7, 5);
        Due.is("mix(1, 0, 9)", dice.mix(1, 0, 9), 81);
        Due.is("mix(1, 9, 0)", dice.mix(1, 9, 0), 729);
        weights("after mix", dice, 324, 162, 162, 81);
        int changes = dice.count(12);
        Due.is("mix above 999", dice.mix(1, 4, 0), TOO_MANY);
        Due.is("mix(1, 3, 6)", dice.mix(1, 3, 6), 2241);
        Due.is("mix just 999", dice.cell(0, 0, 2), 996);
        Due.is("mix above 999", dice.mix(1, 1, 1), TOO_MANY);
        Due.is("mix, both 0", dice.mix(1, 0, 0), BAD_VALUE);
        Due.is("mix, no such dice", dice.mix(9, 0, 0), NO_SUCH);
        for (int wrong : WRONG) {
            Due.is("mix, wrong number", dice.mix(wrong, wrong, 1), NO_SUCH);
            Due.is("mix, wrong times", dice.mix(1, wrong, 1), BAD_VALUE);
            Due.is("mix, wrong other", dice.mix(1, 1, wrong), BAD_VALUE);
        }
        Due.is("mix, wrong times", dice.mix(1, 10, 0), BAD_VALUE);
        Due.is("mix, wrong other", dice.mix(1, 0, 10), BAD_VALUE);
        Due.is("changes", dice.count(12), changes + 1);
        ObedientDice even = new ObedientDice();
        even.weigh(0, 0, 999);
        Due.is("mix to 999", even.mix(3, 1, 9), 1011);
        Due.is("mix over 999", even.mix(0, 1, 1), TOO_MANY);
    }

    private static void roll() {
        ObedientDice dice = new ObedientDice();
        int[] falls = {2, 2, 1, 3, 3, 3, 2, 3, 0, 2, 1, 3};
        for (int i = 0; i < falls.length; i++) {
            Due.is("roll " + i, dice.roll(1), falls[i]);
        }
        Due.is("thrower", dice.count(10), 836760821);
        dice.forget(1);
        Due.is("roll(12)", dice.roll(12), 3);
        int[] times = {1, 2, 4, 5};
        for (int cell = 0; cell < 4; cell++) {
            Due.is("falls of " + cell, dice.cell(cell / 2, cell % 2, 3), times[cell]);
        }
        for (int many : new int[] {0, -1, 101, Integer.MIN_VALUE, Integer.MAX_VALUE}) {
            Due.is("roll(" + many + ")", dice.roll(many), BAD_VALUE);
        }
        for (int i = 0; i < 9; i++) {
            dice.roll(100);
        }
        Due.is("throws", dice.count(7), 912);
        int thrower = dice.count(10);
        Due.is("roll beyond 1000", dice.roll(89), TOO_MANY);
        Due.is("thrower after no roll", dice.count(10), thrower);
        dice.roll(88);
        Due.is("throws", dice.count(7), 1000);
        Due.is("roll beyond 1000", dice.roll(1), TOO_MANY);
        Due.is("roll, wrong before too many", dice.roll(101), BAD_VALUE);
        dice.forget(2147483647);
        dice.weigh(0, 0, 0);
        dice.weigh(0, 1, 0);
        dice.weigh(1, 1, 0);
        Due.is("the only cell falls", dice.roll(100), 2);
        Due.is("the only cell falls", dice.cell(1, 0, 3), 100);
    }

    private static void forget() {
        ObedientDice dice = new ObedientDice();
        dice.roll(7);
        Due.is("forget(-1)", dice.forget(-1), BAD_VALUE);
        Due.is("forget, the least", dice.forget(Integer.MIN_VALUE), BAD_VALUE);
        Due.is("throws", dice.count(7), 7);
        Due.is("forget(0)", dice.forget(0), 7);
        Due.is("throws", dice.count(7), 0);
        Due.is("falls", dice.cell(1, 0, 3), 0);
        Due.is("thrower", dice.count(10), 0);
        dice.roll(1);
        Due.is("thrower behind 0", dice.count(10), 12345);
        Due.is("forget, the greatest", dice.forget(2147483647), 1);
        Due.is("thrower", dice.count(10), 2147483647);
        dice.roll(1);
        // 2147483647 stands for -1 here: 2147483648 + 12345 - 1103515245
        Due.is("thrower behind the greatest", dice.count(10), 1043980748);
        Due.is("changes", dice.count(12), 5);
    }

    private static void read() {
        ObedientDice dice = new ObedientDice();
        Due.is("read of nothing", dice.read(), BAD_TEXT);
        dice.begin(3);
        dice.weigh(1, 2, 7);
        dice.roll(3);
        int thrower = dice.count(10);
        Texts.put(dice, "-9,9;8,-8/-0,0;1,-7");
        Due.is("read", dice.read(), 2);
        int[] points = {-9, 9, 8, -8, 0, 0, 1, -7};
        for (int i = 0; i < points.length; i++) {
            Due.is("points read " + i, dice.cell(i / 4, i / 2 % 2, i % 2), points[i] + 100);
        }
        weights("after read", dice, 1, 1, 1, 1);
        Due.is("throws after read", dice.count(7), 0);
        Due.is("thrower after read", dice.count(10), thrower);
        Due.is("pad after read", dice.count(11), 0);
        Due.is("changes", dice.count(12), 4);
        Texts.put(dice, "1,1;2,2;3,3/4,4;5,5;6,6");
        Due.is("read", dice.read(), 3);
        Due.is("points read", dice.cell(0, 2, 0), 103);
        Due.is("points read", dice.cell(1, 2, 1), 106);
        Texts.put(dice, "1,1;2,2/3,3");
        Due.is("read too short", dice.read(), BAD_TEXT);
        Due.is("pad after no read", dice.count(11), 11);
        Due.is("undo of read", dice.undo(), 4);
        Due.is("pad after undo", dice.count(11), 11);
        Due.is("points after undo", dice.cell(0, 0, 0), 91);
    }

    private static void cell() {
        ObedientDice dice = Texts.game(Games.CHICKEN);
        dice.weigh(1, 0, 7);
        dice.roll(20);
        Due.is("points 0", dice.cell(1, 0, 0), 107);
        Due.is("points 1", dice.cell(1, 0, 1), 102);
        Due.is("weight", dice.cell(1, 0, 2), 7);
        int falls = dice.cell(0, 0, 3) + dice.cell(0, 1, 3) + dice.cell(1, 0, 3) + dice.cell(1, 1, 3);
        Due.is("falls", falls, 20);
        int[] sure = {0, 1, 1, 0};
        for (int i = 0; i < 4; i++) {
            Due.is("sure " + i, dice.cell(i / 2, i % 2, 4), sure[i]);
            Due.is("told " + i, dice.cell(i / 2, i % 2, 5), 1);
        }
        Due.is("cell, what 6", dice.cell(0, 0, 6), BAD_VALUE);
        Due.is("cell, row 2", dice.cell(2, 0, 6), NO_SUCH);
        Due.is("cell, column 2", dice.cell(0, 2, 6), NO_SUCH);
        for (int wrong : WRONG) {
            Due.is("cell, wrong row", dice.cell(wrong, 0, wrong), NO_SUCH);
            Due.is("cell, wrong column", dice.cell(0, wrong, wrong), NO_SUCH);
            Due.is("cell, wrong what", dice.cell(0, 0, wrong), BAD_VALUE);
        }
        ObedientDice prison = Texts.game(Games.PRISON);
        for (int i = 0; i < 4; i++) {
            Due.is("prison sure " + i, prison.cell(i / 2, i % 2, 4), i == 3 ? 1 : 0);
            Due.is("prison told " + i, prison.cell(i / 2, i % 2, 5), i == 3 ? 1 : 0);
        }
    }

    private static void inequality() {
        ObedientDice dice = new ObedientDice();
        int[][] of2 = {{0, 0, 1}, {0, 1, 0}, {1, 0, 1}, {1, 1, 0}};
        names(dice, of2);
        dice.begin(3);
        names(dice, new int[][] {{0, 0, 1}, {0, 1, 0}, {1, 0, 1}, {1, 0, 2}, {1, 1, 0}, {1, 1, 2}, {1, 2, 0}, {1, 2, 1}});
        dice = Texts.game(Games.CHICKEN);
        dice.weigh(0, 0, 2);
        dice.weigh(0, 1, 3);
        dice.weigh(1, 0, 5);
        // 2 * (6 - 7) + 3 * (2 - 0), 5 * (7 - 6) + 1 * (0 - 2), 2 * (6 - 7) + 5 * (2 - 0), 3 * (7 - 6) + 1 * (0 - 2)
        int[] slacks = {4, 3, 8, 1};
        for (int i = 0; i < 4; i++) {
            Due.is("slack " + i, dice.inequality(i, 3), 1000000 + slacks[i]);
            Due.is("regret before a throw", dice.inequality(i, 4), 1000000);
        }
        dice.weigh(1, 0, 0);
        Due.is("slack below 0", dice.inequality(1, 3), 999998);
        dice.roll(50);
        int a = dice.cell(0, 0, 3);
        int b = dice.cell(0, 1, 3);
        int d = dice.cell(1, 1, 3);
        Due.is("regret 0", dice.inequality(0, 4), 1000000 + a - 2 * b);
        Due.is("regret 1", dice.inequality(1, 4), 1000000 + 2 * d);
        Due.is("regret 2", dice.inequality(2, 4), 1000000 + a);
        Due.is("regret 3", dice.inequality(3, 4), 1000000 - b + 2 * d);
        dice.points(0, 0, 0, -9);
        Due.is("regret by the points of now", dice.inequality(0, 4), 1000000 + 16 * a - 2 * b);
        Due.is("inequality, what 5", dice.inequality(0, 5), BAD_VALUE);
        Due.is("inequality 4", dice.inequality(4, 5), NO_SUCH);
        for (int wrong : WRONG) {
            Due.is("inequality, wrong number", dice.inequality(wrong, wrong), NO_SUCH);
            Due.is("inequality, wrong what", dice.inequality(3, wrong), BAD_VALUE);
        }
        dice.begin(3);
        Due.is("inequality 7", dice.inequality(7, 5), BAD_VALUE);
        Due.is("inequality 8", dice.inequality(8, 0), NO_SUCH);
    }

    private static void names(ObedientDice dice, int[][] names) {
        Due.is("inequalities", dice.count(2), names.length);
        for (int i = 0; i < names.length; i++) {
            for (int what = 0; what < 3; what++) {
                Due.is("inequality(" + i + ", " + what + ")", dice.inequality(i, what), names[i][what]);
            }
        }
    }

    private static void count() {
        ObedientDice dice = Texts.game(Games.CHICKEN);
        dice.roll(40);
        dice.weigh(1, 1, 8);
        Texts.put(dice, "1,2;");
        Due.is("columns", dice.count(0), 2);
        Due.is("cells", dice.count(1), 4);
        Due.is("inequalities", dice.count(2), 4);
        Due.is("sum", dice.count(3), 11);
        Due.is("obeyed", dice.count(4), 0);
        Due.is("broken", dice.count(5), 2);
        Due.is("extremes", dice.count(6), 5);
        Due.is("throws", dice.count(7), 40);
        int a = dice.cell(0, 0, 3);
        int b = dice.cell(0, 1, 3);
        int c = dice.cell(1, 0, 3);
        Due.is("points of 0", dice.count(8), 100000 + 6 * a + 2 * b + 7 * c);
        Due.is("points of 1", dice.count(9), 100000 + 6 * a + 7 * b + 2 * c);
        dice.points(1, 0, 0, -9);
        Due.is("points of 1 by those of now", dice.count(9), 100000 - 9 * a + 7 * b + 2 * c);
        Due.is("pad", dice.count(11), 4);
        Due.is("changes", dice.count(12), 4);
        dice = Texts.game(Games.CHICKEN);
        dice.weigh(0, 0, 3);
        Due.is("broken for the rows 0 and 1", dice.count(5), 4);
        dice.weigh(0, 1, 2);
        Due.is("broken but for the row 0 and the column 1", dice.count(5), 2);
        dice.weigh(1, 0, 2);
        Due.is("broken", dice.count(5), 0);
        dice.points(0, 0, 1, -2);
        Due.is("broken for the row 0 alone", dice.count(5), 1);
        Due.is("obeyed", dice.count(4), 0);
        dice.points(0, 0, 1, 2);
        dice.points(1, 1, 1, 9);
        Due.is("broken for the column 0 alone", dice.count(5), 1);
        dice.begin(3);
        Due.is("columns", dice.count(0), 3);
        Due.is("cells", dice.count(1), 6);
        Due.is("inequalities", dice.count(2), 8);
        Due.is("extremes", dice.count(6), 6);
        Due.is("obeyed", dice.count(4), 1);
        for (int wrong : new int[] {-1, 13, Integer.MIN_VALUE, Integer.MAX_VALUE}) {
            Due.is("count(" + wrong + ")", dice.count(wrong), BAD_VALUE);
        }
    }

    private static void worth() {
        ObedientDice dice = Texts.game("1,-1;0,0/0,0;0,0");
        dice.weigh(1, 1, 0);
        // 1/3 and -1/3: rounded down, also below 0
        Due.is("worth(0)", dice.worth(0), 100333);
        Due.is("worth(1)", dice.worth(1), 99666);
        Due.is("worth(2)", dice.worth(2), 100000);
        dice.points(1, 0, 0, 1);
        // the sum is rounded, not its parts
        Due.is("worth(2)", dice.worth(2), 100666);
        for (int i = 0; i < 8; i++) {
            dice.points(i / 4, i / 2 % 2, i % 2, -9);
        }
        Due.is("worth, the least", dice.worth(2), 82000);
        Due.is("worth(0), the least", dice.worth(0), 91000);
        for (int wrong : new int[] {-1, 3, Integer.MIN_VALUE, Integer.MAX_VALUE}) {
            Due.is("worth(" + wrong + ")", dice.worth(wrong), BAD_VALUE);
        }
    }

    private static void extreme() {
        ObedientDice dice = Texts.game(Games.BATTLE);
        Due.is("extremes", dice.count(6), 5);
        Games.extremeIs(dice, 0, 1, 0, 0, 0);
        Games.extremeIs(dice, 1, 5, 0, 3, 5, BAD_VALUE, BAD_VALUE, 13, 13, 6);
        Games.extremeIs(dice, 2, 3, 5, 0, 3, BAD_VALUE, BAD_VALUE, 11, 11, 9);
        // each player throws a die of its own: 5/8 and 3/8, 3/8 and 5/8
        Games.extremeIs(dice, 3, 15, 25, 9, 15, BAD_VALUE, BAD_VALUE, 64, 15, 15);
        Games.extremeIs(dice, 4, 0, 0, 0, 1, BAD_VALUE, BAD_VALUE, 1, 8, 5);
        dice = Texts.game(Games.PENNIES);
        Due.is("extremes", dice.count(6), 1);
        Games.extremeIs(dice, 0, 1, 1, 1, 1, BAD_VALUE, BAD_VALUE, 4, 15, 15);
        dice = Texts.game(Games.STEEP);
        Due.is("extremes", dice.count(6), 11);
        Games.extremeIs(dice, 0, 1001, 910, 0, 0, 260, 220, 2391, 51, 19);
        Games.extremeIs(dice, 4, 1001, 910, 0, 286, 5460, 4400, 12057, 59, 39);
        Games.extremeIs(dice, 10, 0, 0, 0, 0, 0, 1, 1, 32, 61);
        Due.is("no such dice", dice.extreme(11, 9), NO_SUCH);
        Due.is("no such value", dice.extreme(10, 9), BAD_VALUE);
        for (int wrong : WRONG) {
            Due.is("extreme, wrong number", dice.extreme(wrong, wrong), NO_SUCH);
            Due.is("extreme, wrong what", dice.extreme(0, wrong), BAD_VALUE);
        }
        Due.is("changes", dice.count(12), 1);
        dice.points(0, 1, 2, -9);
        Due.is("other points, other dice", dice.count(6) == 11 && dice.extreme(10, 5) == 1 ? 1 : 0, 0);
        dice.undo();
        Games.extremeIs(dice, 0, 1001, 910, 0, 0, 260, 220, 2391, 51, 19);
    }

    private static void best() {
        ObedientDice dice = Texts.game(Games.CHICKEN);
        Due.is("best(0, 0)", dice.best(0, 0), 4);
        Due.is("best(0, 1)", dice.best(0, 1), 107000);
        Due.is("best(1, 1)", dice.best(1, 1), 107000);
        Due.is("best(2, 0)", dice.best(2, 0), 0);
        Due.is("best(2, 1)", dice.best(2, 1), 110500);
        dice = Texts.game(Games.PENNIES);
        Due.is("best(0, 0)", dice.best(0, 0), 0);
        Due.is("best(0, 1)", dice.best(0, 1), 100000);
        dice = new ObedientDice();
        Due.is("best, all the same", dice.best(2, 0), 0);
        for (int i = 0; i < 8; i++) {
            dice.points(i / 4, i / 2 % 2, i % 2, i == 7 ? -8 : -9);
        }
        Due.is("best below 0", dice.best(0, 1), 91000);
        Due.is("best below 0", dice.best(1, 1), 92000);
        Due.is("best of several", dice.best(0, 0), 0);
        for (int wrong : new int[] {-1, 3, Integer.MIN_VALUE, Integer.MAX_VALUE}) {
            Due.is("best, wrong player", dice.best(wrong, 0), BAD_VALUE);
            Due.is("best, wrong what", dice.best(0, wrong), BAD_VALUE);
        }
        Due.is("best, what 2", dice.best(0, 2), BAD_VALUE);
    }

    private static void neverTold() {
        ObedientDice dice = Texts.game(Games.PRISON);
        Due.is("never the row 0", dice.neverTold(0), 1);
        Due.is("never the column 0", dice.neverTold(1), 1);
        dice = Texts.game("0,0;0,1;0,2/0,0;0,1;0,2");
        Due.is("each row", dice.neverTold(0), 0);
        Due.is("the third column alone", dice.neverTold(1), 3);
        dice = Texts.game(Games.PENNIES);
        Due.is("each row", dice.neverTold(0), 0);
        Due.is("each column", dice.neverTold(1), 0);
        for (int wrong : new int[] {-1, 2, Integer.MIN_VALUE, Integer.MAX_VALUE}) {
            Due.is("neverTold(" + wrong + ")", dice.neverTold(wrong), NO_SUCH);
        }
    }

    private static void sure() {
        Due.is("all", new ObedientDice().sure(), 15);
        Due.is("none", Texts.game(Games.PENNIES).sure(), 0);
        Due.is("two", Texts.game(Games.BATTLE).sure(), 9);
        Due.is("two", Texts.game(Games.CHICKEN).sure(), 6);
        Due.is("of six", Texts.game("1,0;0,0;2,0/0,0;1,0;2,0").sure(), 1 + 4 + 16 + 32);
        Due.is("of six", Texts.game("0,1;0,0;0,2/0,2;0,2;0,1").sure(), 4 + 8 + 16);
    }

    private static void put() {
        ObedientDice dice = new ObedientDice();
        Due.is("put(33)", dice.put(33), 1);
        Due.is("put(126)", dice.put(126), 2);
        for (long wrong : new long[] {0, 32, 127, 128, 255, 256, 49 << 8, 1L << 40 | 49, -1, Long.MIN_VALUE,
            Long.MIN_VALUE | 49, 0x3131003131L, 0x3120L, 0x2031L, 0xff31L, 0x8031313131313131L}) {
            Due.is("put(" + wrong + ")", dice.put(wrong), BAD_VALUE);
        }
        Due.is("length after wrong ones", dice.count(11), 2);
        Due.is("put of eight", dice.put(Texts.packed("12345678")), 10);
        Due.is("changes", dice.count(12), 0);
        for (int i = 0; i < 6; i++) {
            dice.put(Texts.packed("12345678"));
        }
        Due.is("length", dice.count(11), 58);
        Due.is("put too many", dice.put(Texts.packed("123")), TOO_MANY);
        Due.is("put wrong ones and too many", dice.put(Texts.packed("12 ")), BAD_VALUE);
        Due.is("put the last ones", dice.put(Texts.packed("12")), 60);
        Due.is("put one more", dice.put(49), TOO_MANY);
        // their order
        dice.wipe();
        Texts.put(dice, "1,2;3,4/5,6;7,8");
        dice.read();
        Due.is("the first one", dice.cell(0, 0, 0), 101);
        Due.is("the last one", dice.cell(1, 1, 1), 108);
    }

    private static void wipe() {
        ObedientDice dice = new ObedientDice();
        Due.is("wipe of nothing", dice.wipe(), 0);
        Texts.put(dice, "1,1;1,1/1,1");
        Due.is("wipe", dice.wipe(), 11);
        Due.is("wipe again", dice.wipe(), 0);
        Due.is("fault then", dice.fault(), 0);
        Due.is("changes", dice.count(12), 0);
    }

    private static void fault() {
        String[] right = {Games.CHICKEN, Games.PENNIES, Games.STEEP, "-0,-0;-0,-0/-0,-0;-0,-0", "0,0;0,0;0,0/0,0;0,0;0,0",
            "-9,-9;-9,-9;-9,-9/-9,-9;-9,-9;-9,-9"};
        for (String text : right) {
            Due.is("fault of " + text, Texts.fault(text), NONE);
            Due.is("fault of more than " + text, Texts.fault(text + "1"), text.length());
            Due.is("fault of more than " + text, Texts.fault(text + ";1,1"), text.length());
            Due.is("fault of more than " + text, Texts.fault(text + "/1,1"), text.length());
            for (int end = 0; end < text.length(); end++) {
                Due.is("fault of less of " + text, Texts.fault(text.substring(0, end)), end);
            }
        }
        Due.is("/ behind one cell", Texts.fault("1,1/1,1"), 3);
        Due.is("; behind the third cell", Texts.fault("1,1;1,1;1,1;1,1"), 11);
        Due.is("/ too early in the second row", Texts.fault("1,1;1,1/1,1/"), 11);
        Due.is("; too late in the second row", Texts.fault("1,1;1,1/1,1;1,1;"), 15);
        Due.is("two of three", Texts.fault("1,1;1,1;1,1/1,1;1,1"), 19);
        Due.is("/ behind two of three", Texts.fault("1,1;1,1;1,1/1,1;1,1/"), 19);
        Due.is("two digits", Texts.fault("10,1;1,1/1,1;1,1"), 1);
        Due.is("two minuses", Texts.fault("--1,1;1,1/1,1;1,1"), 1);
        Due.is("minus for digit", Texts.fault("1-1"), 1);
        Due.is("no number", Texts.fault(",1"), 0);
        Due.is("no second number", Texts.fault("1,;1,1"), 2);
        Due.is("a third number", Texts.fault("1,1,1"), 3);
        Due.is("; for ,", Texts.fault("1;1"), 1);
        Due.is("a letter", Texts.fault("1,a"), 2);
        Due.is(": behind 9", Texts.fault("1,:"), 2);
        Due.is("/ for a digit", Texts.fault("1,1;/"), 4);
        Due.is("plus", Texts.fault("+1,1"), 0);
    }

    private static void undo() {
        ObedientDice dice = Texts.game(Games.CHICKEN);
        dice.weigh(0, 0, 5);
        Due.is("undo", dice.undo(), 1);
        weights("after undo", dice, 1, 1, 1, 1);
        dice.roll(9);
        int thrower = dice.count(10);
        dice.forget(5);
        dice.begin(3);
        dice.points(0, 1, 2, 4);
        dice.take(0);
        dice.weigh(0, 0, 1);
        Due.is("changes", dice.count(12), 6);
        dice.save(0);
        Texts.put(dice, "1,");
        Due.is("wrong changes", dice.begin(7) + dice.roll(0) + dice.take(-1), 2 * BAD_VALUE + NO_SUCH);
        Due.is("changes", dice.count(12), 6);
        Due.is("undo of weigh", dice.undo(), 5);
        Due.is("undo of take", dice.undo(), 4);
        weights("after undo of take", dice, 1, 1, 1, 1, 1, 1);
        Due.is("undo of points", dice.undo(), 3);
        Due.is("points after undo", dice.cell(1, 2, 0), 100);
        Due.is("undo of begin", dice.undo(), 2);
        Due.is("columns after undo", dice.count(0), 2);
        Due.is("points after undo", dice.cell(0, 0, 0), 106);
        Due.is("thrower after undo", dice.count(10), 5);
        Due.is("undo of forget", dice.undo(), 1);
        Due.is("throws after undo", dice.count(7), 9);
        Due.is("thrower after undo", dice.count(10), thrower);
        Due.is("undo of roll", dice.undo(), 0);
        Due.is("throws after undo", dice.count(7), 0);
        Due.is("thrower after undo", dice.count(10), 1);
        Due.is("undo of nothing", dice.undo(), NOT_POSSIBLE);
        Due.is("the oldest one was dropped", dice.cell(0, 0, 0), 106);
        Due.is("pad after undo", dice.count(11), 2);
        Due.is("restore after undo", dice.restore(0), 0);
        Due.is("columns then", dice.count(0), 3);
        Due.is("undo of restore", dice.undo(), 0);
        Due.is("columns then", dice.count(0), 2);
    }

    private static void save() {
        ObedientDice dice = Texts.game(Games.CHICKEN);
        dice.roll(11);
        Texts.put(dice, "1,");
        Due.is("save(1)", dice.save(1), 11);
        Due.is("changes", dice.count(12), 2);
        dice.forget(3);
        dice.begin(3);
        Due.is("save(0)", dice.save(0), 0);
        for (int wrong : new int[] {-1, 2, Integer.MIN_VALUE, Integer.MAX_VALUE}) {
            Due.is("save(" + wrong + ")", dice.save(wrong), BAD_VALUE);
        }
        Due.is("restore(1)", dice.restore(1), 11);
        Due.is("points then", dice.cell(1, 0, 0), 107);
        Due.is("restore(0)", dice.restore(0), 0);
        Due.is("columns then", dice.count(0), 3);
        dice.roll(2);
        Due.is("save over it", dice.save(1), 2);
        dice.begin(2);
        Due.is("restore what was saved last", dice.restore(1), 2);
        Due.is("columns then", dice.count(0), 3);
        Due.is("pad then", dice.count(11), 2);
    }

    private static void restore() {
        ObedientDice dice = Texts.game(Games.CHICKEN);
        Due.is("restore of nothing", dice.restore(0), NOT_POSSIBLE);
        Due.is("restore of nothing", dice.restore(1), NOT_POSSIBLE);
        for (int wrong : new int[] {-1, 2, Integer.MIN_VALUE, Integer.MAX_VALUE}) {
            Due.is("restore(" + wrong + ")", dice.restore(wrong), BAD_VALUE);
        }
        Due.is("changes", dice.count(12), 1);
        dice.weigh(1, 1, 6);
        dice.roll(4);
        dice.save(0);
        int thrower = dice.count(10);
        Due.is("restore(1)", dice.restore(1), NOT_POSSIBLE);
        dice.roll(5);
        dice.points(0, 0, 0, -3);
        dice.weigh(1, 1, 2);
        Texts.put(dice, "1");
        Due.is("restore(0)", dice.restore(0), 4);
        Due.is("thrower then", dice.count(10), thrower);
        Due.is("points then", dice.cell(0, 0, 0), 106);
        weights("then", dice, 1, 1, 1, 6);
        Due.is("pad then", dice.count(11), 1);
        dice.weigh(1, 1, 3);
        Due.is("the slot keeps it", dice.restore(0), 4);
        weights("then", dice, 1, 1, 1, 6);
        Due.is("changes", dice.count(12), 6);
        Due.is("undo", dice.undo(), 5);
        weights("then", dice, 1, 1, 1, 3);
    }

    public static void main(String[] args) {
        newObject();
        begin();
        points();
        weigh();
        take();
        mix();
        roll();
        forget();
        read();
        cell();
        inequality();
        count();
        worth();
        extreme();
        best();
        neverTold();
        sure();
        put();
        wipe();
        fault();
        undo();
        save();
        restore();
        Due.end();
    }
}
