/** The boundary cases of the promises 1 to 9: a new object, and the changes. */
public final class ChangesTest {
    private static final int NO_SUCH = ObedientDice.NO_SUCH;
    private static final int BAD_VALUE = ObedientDice.BAD_VALUE;
    private static final int TOO_MANY = ObedientDice.TOO_MANY;
    private static final int NOT_POSSIBLE = ObedientDice.NOT_POSSIBLE;

    private ChangesTest() {
    }

    private static ObedientDice wide() {
        ObedientDice dice = new ObedientDice();
        dice.begin(3);
        return dice;
    }

    // ---- promise 1: a new object

    @Sentence("Creates a game of two columns without points; each cell has the weight 1.")
    private static void newObject() {
        ObedientDice dice = new ObedientDice();
        String cells = " 100 100 1 0".repeat(4);
        Due.is("the state", Whole.state(dice), "2 x 1:" + cells);
        int[] counts = {2, 4, 4, 4, 1, 0, 4, 0, 100000, 100000, 1, 0, 0};
        for (int what = 0; what < counts.length; what++) {
            Due.is("count(" + what + ")", dice.count(what), counts[what]);
        }
        Due.is("fault()", dice.fault(), 0);
        Due.is("wipe()", dice.wipe(), 0);
        Due.is("undo()", dice.undo(), NOT_POSSIBLE);
        Due.is("restore(0)", dice.restore(0), NOT_POSSIBLE);
        Due.is("restore(1)", dice.restore(1), NOT_POSSIBLE);
    }

    @Sentence("Creates a game of two columns without points")
    private static void newObjectsAreApart() {
        ObedientDice one = new ObedientDice();
        one.begin(3);
        one.points(0, 0, 0, 9);
        one.save(0);
        one.put(49);
        ObedientDice another = new ObedientDice();
        Due.is("columns", another.count(0), 2);
        Due.is("points", another.cell(0, 0, 0), 100);
        Due.is("slot", another.restore(0), NOT_POSSIBLE);
        Due.is("pad", another.count(11), 0);
        Due.is("columns of the first one", one.count(0), 3);
    }

    // ---- promise 2: begin

    @Sentence("columns: 2 or 3")
    private static void beginOf2And3() {
        ObedientDice dice = new ObedientDice();
        Due.is("begin(2)", dice.begin(2), 2);
        Due.is("columns", dice.count(0), 2);
        Due.is("begin(3)", dice.begin(3), 2);
        Due.is("columns", dice.count(0), 3);
    }

    @Sentence("BAD_VALUE if columns is neither.")
    private static void beginOfOthers() {
        ObedientDice dice = wide();
        for (int columns : new int[] {1, 4, 0, -1, -2, -3, 6, 258, Integer.MIN_VALUE, Integer.MAX_VALUE}) {
            Due.is("begin(" + columns + ")", dice.begin(columns), BAD_VALUE);
        }
        Due.is("columns", dice.count(0), 3);
        Due.is("changes", dice.count(12), 1);
    }

    @Sentence("Returns how many columns there were")
    private static void beginTellsTheColumnsBefore() {
        ObedientDice dice = new ObedientDice();
        Due.is("2 to 3", dice.begin(3), 2);
        Due.is("3 to 3", dice.begin(3), 3);
        Due.is("3 to 2", dice.begin(2), 3);
        Due.is("2 to 2", dice.begin(2), 2);
    }

    @Sentence("Begins anew with so many columns: no points, each cell has the weight 1, nothing is thrown")
    private static void beginAnew() {
        for (int columns = 2; columns <= 3; columns++) {
            ObedientDice dice = wide();
            Games.allPoints(dice, 0, 9);
            Games.allPoints(dice, 1, -9);
            Games.weigh(dice, 0, 7, 0, 0, 0, 999);
            dice.roll(100);
            dice.forget(5);
            dice.roll(40);
            int x = dice.count(10);
            dice.begin(columns);
            Due.is("the state", Whole.state(dice), columns + " x " + x + ":" + " 100 100 1 0".repeat(2 * columns));
            Due.is("throws", dice.count(7), 0);
            Due.is("points by throws", dice.count(8), 100000);
            Due.is("regret", dice.inequality(1, 4), 1000000);
            dice.begin(3);
            Due.is("the state", Whole.state(dice), "3 x " + x + ":" + " 100 100 1 0".repeat(6));
        }
    }

    @Sentence("(the number that throws stays)")
    private static void beginLeavesTheThrower() {
        ObedientDice dice = new ObedientDice();
        dice.begin(3);
        Due.is("x at first", dice.count(10), 1);
        dice.forget(2147483647);
        dice.begin(2);
        Due.is("the greatest x", dice.count(10), 2147483647);
        dice.forget(0);
        dice.begin(2);
        Due.is("the least x", dice.count(10), 0);
    }

    // ---- promise 3: points

    @Sentence("points: -9 to 9")
    private static void pointsInRange() {
        ObedientDice dice = wide();
        for (int points = -9; points <= 9; points++) {
            Due.is("points", dice.points(1, 1, 2, points), points == -9 ? 100 : 99 + points);
            Due.is("then", dice.cell(1, 2, 1), 100 + points);
        }
    }

    @Sentence("BAD_VALUE if points is out of range.")
    private static void pointsOutOfRange() {
        ObedientDice dice = new ObedientDice();
        for (int points : new int[] {10, -10, 11, 100, -100, 256, Integer.MIN_VALUE, Integer.MAX_VALUE}) {
            Due.is("points, " + points, dice.points(0, 1, 1, points), BAD_VALUE);
        }
        Due.is("then", dice.cell(1, 1, 0), 100);
        Due.is("changes", dice.count(12), 0);
    }

    @Sentence("NO_SUCH if there is no such player, row or column")
    private static void pointsOfNone() {
        ObedientDice dice = new ObedientDice();
        for (int wrong : new int[] {2, 3, -1, Integer.MIN_VALUE, Integer.MAX_VALUE}) {
            Due.is("points, the player " + wrong, dice.points(wrong, 0, 0, 1), NO_SUCH);
            Due.is("points, the row " + wrong, dice.points(0, wrong, 0, 1), NO_SUCH);
            Due.is("points, the column " + wrong, dice.points(0, 0, wrong, 1), NO_SUCH);
        }
        dice.begin(3);
        Due.is("points, the column 2 of three", dice.points(0, 0, 2, 1), 100);
        Due.is("points, the column 3", dice.points(0, 0, 3, 1), NO_SUCH);
        Due.is("points, the row 2", dice.points(0, 2, 0, 1), NO_SUCH);
        dice.begin(2);
        Due.is("points, the column 2 of two again", dice.points(0, 0, 2, 1), NO_SUCH);
    }

    @Sentence("Returns the previous points, and 100")
    private static void previousPoints() {
        ObedientDice dice = new ObedientDice();
        Due.is("of 0", dice.points(1, 0, 1, -9), 100);
        Due.is("of the least", dice.points(1, 0, 1, 9), 91);
        Due.is("of the greatest", dice.points(1, 0, 1, 9), 109);
        Due.is("of the same", dice.points(1, 0, 1, 0), 109);
        Due.is("of 0 again", dice.points(1, 0, 1, 0), 100);
        Due.is("those of the other player", dice.cell(0, 1, 0), 100);
        Due.is("those of the cell beside", dice.cell(1, 0, 1), 100);
    }

    @Sentence("(What was thrown stays as it is; regrets, and points by throws, go by the points of now.)")
    private static void thrownStays() {
        ObedientDice dice = Games.with(0, 3, 0, 0);
        dice.roll(10);
        int x = dice.count(10);
        dice.points(0, 0, 1, -9);
        dice.points(1, 0, 1, 9);
        Due.is("throws", dice.count(7), 10);
        Games.fallsAre(dice, 0, 10, 0, 0);
        Due.is("x", dice.count(10), x);
        Due.is("points of the player 0", dice.count(8), 99910);
        Due.is("points of the player 1", dice.count(9), 100090);
        Due.is("regret of the player 0", dice.inequality(0, 4), 1000090);
        Due.is("regret of the player 1", dice.inequality(3, 4), 999910);
        dice.points(0, 1, 1, -9);
        Due.is("regret of the player 0", dice.inequality(0, 4), 1000000);
        dice.points(1, 0, 0, -9);
        Due.is("regret of the player 1", dice.inequality(3, 4), 999820);
    }

    // ---- promise 4: weigh

    @Sentence("weight: 0 to 999")
    private static void weightInRange() {
        ObedientDice dice = wide();
        for (int cell = 0; cell < 6; cell++) {
            Due.is("weigh, 0", dice.weigh(cell / 3, cell % 3, 0), 1);
            Due.is("weigh, 999", dice.weigh(cell / 3, cell % 3, 999), 0);
            Due.is("then", Games.weight(dice, cell), 999);
            Due.is("weigh, 1", dice.weigh(cell / 3, cell % 3, 1), 999);
        }
    }

    @Sentence("BAD_VALUE if weight is out of range")
    private static void weightOutOfRange() {
        ObedientDice dice = new ObedientDice();
        for (int weight : new int[] {-1, 1000, 1001, 65536, Integer.MIN_VALUE, Integer.MAX_VALUE}) {
            Due.is("weigh, " + weight, dice.weigh(1, 1, weight), BAD_VALUE);
        }
        Games.weightsAre(dice, 1, 1, 1, 1);
        Due.is("changes", dice.count(12), 0);
    }

    @Sentence("NO_SUCH if there is no such row or column")
    private static void weightOfNone() {
        ObedientDice dice = new ObedientDice();
        for (int wrong : new int[] {2, 3, -1, Integer.MIN_VALUE, Integer.MAX_VALUE}) {
            Due.is("weigh, the row " + wrong, dice.weigh(wrong, 0, 1), NO_SUCH);
            Due.is("weigh, the column " + wrong, dice.weigh(0, wrong, 1), NO_SUCH);
        }
        dice.begin(3);
        Due.is("weigh, the column 2 of three", dice.weigh(1, 2, 5), 1);
        Due.is("weigh, the column 3", dice.weigh(1, 3, 5), NO_SUCH);
        Due.is("weigh, the row 2", dice.weigh(2, 2, 5), NO_SUCH);
    }

    @Sentence("NOT_POSSIBLE if all weights would be 0.")
    private static void weightsAll0() {
        for (int columns = 2; columns <= 3; columns++) {
            for (int last = 0; last < 2 * columns; last++) {
                int[] weights = new int[2 * columns];
                weights[last] = 1;
                ObedientDice dice = Games.with(weights);
                int row = last / columns;
                int column = last % columns;
                Due.is("weigh the last one, 0", dice.weigh(row, column, 0), NOT_POSSIBLE);
                Games.weightsAre(dice, weights);
                Due.is("weigh one that is 0, 0", dice.weigh(1 - row, column, 0), 0);
                Due.is("weigh the last one, 999", dice.weigh(row, column, 999), 1);
                Due.is("weigh the last one, 0", dice.weigh(row, column, 0), NOT_POSSIBLE);
                Due.is("weigh another one, 1", dice.weigh(1 - row, column, 1), 0);
                Due.is("weigh what was the last one, 0", dice.weigh(row, column, 0), 999);
            }
        }
    }

    @Sentence("Returns the previous one")
    private static void previousWeight() {
        ObedientDice dice = new ObedientDice();
        Due.is("of 1", dice.weigh(1, 0, 0), 1);
        Due.is("of 0", dice.weigh(1, 0, 999), 0);
        Due.is("of 999", dice.weigh(1, 0, 999), 999);
        Due.is("of the same", dice.weigh(1, 0, 3), 999);
        Games.weightsAre(dice, 1, 1, 3, 1);
    }

    // ---- promise 5: take

    @Sentence("NO_SUCH if there are no such ones")
    private static void takeNone() {
        ObedientDice dice = Texts.game(Games.STEEP);
        for (int number : new int[] {11, 12, 127, 128, -1, Integer.MIN_VALUE, Integer.MAX_VALUE}) {
            Due.is("take(" + number + ")", dice.take(number), NO_SUCH);
        }
        Due.is("take the last ones", dice.take(10), 1);
        dice.begin(2);
        Due.is("take, behind the last ones of the game then", dice.take(4), NO_SUCH);
        Due.is("take the last ones of the game then", dice.take(3), 1);
        Games.weightsAre(dice, 0, 0, 0, 1);
        dice = Texts.game(Games.PENNIES);
        Due.is("take the only ones", dice.take(0), 4);
        Due.is("take, behind the only ones", dice.take(1), NO_SUCH);
    }

    @Sentence("TOO_MANY if one of their weights is above 999.")
    private static void takeAbove999() {
        ObedientDice dice = Texts.game(Games.UP_TO_1000);
        Games.extremeIs(dice, 5, 0, 100, 90, 0, 1000, 63);
        Due.is("take with 1000", dice.take(5), TOO_MANY);
        Games.weightsAre(dice, 1, 1, 1, 1, 1, 1);
        Due.is("changes", dice.count(12), 1);
        dice = Texts.game(Games.UP_TO_999);
        Games.extremeIs(dice, 2, 198, 20, 999, 90, 110, 0);
        Due.is("take with 999, the sum is above it", dice.take(2), 1417);
        Games.weightsAre(dice, 198, 20, 999, 90, 110, 0);
        Due.is("take with 1331", dice.take(4), TOO_MANY);
        dice = Texts.game(Games.STEEP);
        Due.is("take with 1001 for the cell 0", dice.take(0), TOO_MANY);
        Due.is("take with several above 999", dice.take(4), TOO_MANY);
    }

    @Sentence("Returns the sum of their weights")
    private static void takeTellsTheSum() {
        ObedientDice dice = Texts.game(Games.CHICKEN);
        int[] sums = {4, 9, 1, 5, 1};
        for (int number = 0; number < sums.length; number++) {
            Due.is("take(" + number + ")", dice.take(number), sums[number]);
            Due.is("the sum then", dice.count(3), sums[number]);
            Due.is("obeyed", dice.count(4), 1);
        }
        Games.weightsAre(dice, 0, 0, 1, 0);
    }

    // ---- promise 6: mix

    @Sentence("times: 0 to 9")
    private static void mixTimes() {
        ObedientDice dice = Games.with(0, 111, 0, 2);
        Due.is("times 9", dice.mix(0, 9, 0), 1017);
        Games.weightsAre(dice, 0, 999, 0, 18);
        for (int times : new int[] {10, -1, Integer.MIN_VALUE, Integer.MAX_VALUE}) {
            Due.is("times " + times, dice.mix(0, times, 1), BAD_VALUE);
        }
        Due.is("times 0", dice.mix(0, 0, 1), 1);
        Games.weightsAre(dice, 1, 0, 0, 0);
    }

    @Sentence("other: 0 to 9; times and other are not both 0")
    private static void mixOther() {
        ObedientDice dice = Games.with(0, 5, 0, 2);
        Due.is("other 9", dice.mix(2, 1, 9), 16);
        Games.weightsAre(dice, 0, 5, 9, 2);
        for (int other : new int[] {10, -1, Integer.MIN_VALUE, Integer.MAX_VALUE}) {
            Due.is("other " + other, dice.mix(2, 1, other), BAD_VALUE);
        }
        Due.is("other 0", dice.mix(2, 1, 0), 16);
        Games.weightsAre(dice, 0, 5, 9, 2);
        Due.is("both 0", dice.mix(2, 0, 0), BAD_VALUE);
        Games.weightsAre(dice, 0, 5, 9, 2);
        Due.is("-1 and 1 are together 0", dice.mix(2, -1, 1), BAD_VALUE);
        Due.is("changes", dice.count(12), 6);
    }

    @Sentence("NO_SUCH if there are no such extreme dice")
    private static void mixNone() {
        ObedientDice dice = new ObedientDice();
        for (int number : new int[] {4, 5, -1, Integer.MIN_VALUE, Integer.MAX_VALUE}) {
            Due.is("mix(" + number + ", 1, 1)", dice.mix(number, 1, 1), NO_SUCH);
            Due.is("mix(" + number + ", 1, 0)", dice.mix(number, 1, 0), NO_SUCH);
        }
        Due.is("mix(3, 1, 1)", dice.mix(3, 1, 1), 5);
        dice.begin(3);
        Due.is("mix(5, 1, 1)", dice.mix(5, 1, 1), 7);
        Due.is("mix(6, 1, 1)", dice.mix(6, 1, 1), NO_SUCH);
    }

    @Sentence("TOO_MANY if a weight would be above 999.")
    private static void mixAbove999() {
        for (int cell = 0; cell < 6; cell++) {
            int[] weights = {1, 1, 1, 1, 1, 1};
            weights[cell] = 990;
            ObedientDice dice = Games.with(weights);
            Due.is("just 999, the sum is above it", dice.mix(cell, 1, 9), 1004);
            Due.is("1000 by the extreme ones", dice.mix(cell, 1, 1), TOO_MANY);
            weights[cell] = 999;
            Games.weightsAre(dice, weights);
            dice.weigh(cell / 3, cell % 3, 500);
            Due.is("1000 by the dice", dice.mix(cell, 2, 0), TOO_MANY);
            dice.weigh(cell / 3, cell % 3, 499);
            Due.is("999 by both", dice.mix(cell, 2, 1), 1009);
        }
        ObedientDice dice = Texts.game(Games.UP_TO_1000);
        Due.is("1000 by extreme ones alone", dice.mix(5, 0, 1), TOO_MANY);
        Due.is("extreme ones above 999, none of them", dice.mix(5, 1, 0), 6);
        dice = Texts.game(Games.UP_TO_999);
        Due.is("1000 with 999 of the extreme ones", dice.mix(2, 1, 1), TOO_MANY);
        Due.is("999 by extreme ones alone", dice.mix(2, 0, 1), 1417);
        dice = Texts.game(Games.STEEP);
        Games.weigh(dice, 999, 999, 999, 999, 999, 999);
        Due.is("the most that can be mixed", dice.mix(4, 9, 9), TOO_MANY);
        Games.weightsAre(dice, 999, 999, 999, 999, 999, 999);
    }

    @Sentence("each weight becomes times * the weight of the dice, and other * the weight of the extreme ones")
    private static void mixedWeights() {
        ObedientDice dice = Texts.game(Games.BATTLE);
        Games.weigh(dice, 2, 0, 1, 3);
        Games.extremeIs(dice, 2, 3, 5, 0, 3);
        Due.is("mix(2, 4, 3)", dice.mix(2, 4, 3), 57);
        Games.weightsAre(dice, 17, 15, 4, 21);
        Due.is("the sum of the weights then", dice.count(3), 57);
    }

    // ---- promise 7: roll

    @Sentence("many: 1 to 100: so often")
    private static void rollInRange() {
        ObedientDice dice = new ObedientDice();
        dice.roll(1);
        Due.is("throws", dice.count(7), 1);
        dice.roll(100);
        Due.is("throws", dice.count(7), 101);
        dice.roll(99);
        Due.is("throws", dice.count(7), 200);
    }

    @Sentence("BAD_VALUE if many is out of range")
    private static void rollOutOfRange() {
        ObedientDice dice = new ObedientDice();
        for (int many : new int[] {0, 101, -1, 1000, 1001, Integer.MIN_VALUE, Integer.MAX_VALUE}) {
            Due.is("roll(" + many + ")", dice.roll(many), BAD_VALUE);
        }
        Due.is("throws", dice.count(7), 0);
        Due.is("x", dice.count(10), 1);
        Due.is("changes", dice.count(12), 0);
    }

    @Sentence("TOO_MANY if there would be more than 1000 throws.")
    private static void rollBeyond1000() {
        ObedientDice dice = new ObedientDice();
        Games.rollTo(dice, 901);
        int x = dice.count(10);
        Due.is("roll(100) at 901", dice.roll(100), TOO_MANY);
        Due.is("throws", dice.count(7), 901);
        Due.is("x", dice.count(10), x);
        Games.rollTo(dice, 999);
        Due.is("roll(2) at 999", dice.roll(2), TOO_MANY);
        Due.is("roll(1) at 999", dice.roll(1) >= 0 ? 1 : 0, 1);
        Due.is("throws", dice.count(7), 1000);
        Due.is("roll(1) at 1000", dice.roll(1), TOO_MANY);
        dice.undo();
        Due.is("roll(1) at 999 again", dice.roll(1) >= 0 ? 1 : 0, 1);
        dice.forget(1);
        Games.rollTo(dice, 900);
        Due.is("roll(100) at 900", dice.roll(100) >= 0 ? 1 : 0, 1);
        Due.is("throws", dice.count(7), 1000);
        dice.begin(3);
        Due.is("roll(100) in a new game", dice.roll(100) >= 0 ? 1 : 0, 1);
    }

    @Sentence("Returns the cell that fell last")
    private static void cellThatFellLast() {
        ObedientDice one = Games.with(3, 1, 4, 1, 5, 9);
        for (int many = 1; many <= 100; many += 9) {
            ObedientDice another = Games.with(3, 1, 4, 1, 5, 9);
            int last = 0;
            one.forget(many);
            another.forget(many);
            for (int i = 0; i < many; i++) {
                last = another.roll(1);
            }
            Due.is("roll(" + many + ")", one.roll(many), last);
            Due.is("x", one.count(10), another.count(10));
            Due.is("the state", Whole.state(one), Whole.state(another));
        }
    }

    // ---- promise 8: forget

    @Sentence("seed: 0 to 2147483647")
    private static void seedInRange() {
        ObedientDice dice = new ObedientDice();
        for (int seed : new int[] {0, 1, 2147483646, 2147483647}) {
            Due.is("forget(" + seed + ")", dice.forget(seed), 0);
            Due.is("x", dice.count(10), seed);
        }
    }

    @Sentence("BAD_VALUE if seed is below 0.")
    private static void seedBelow0() {
        ObedientDice dice = new ObedientDice();
        dice.roll(3);
        int x = dice.count(10);
        for (int seed : Games.BELOW_0) {
            Due.is("forget(" + seed + ")", dice.forget(seed), BAD_VALUE);
        }
        Due.is("x", dice.count(10), x);
        Due.is("throws", dice.count(7), 3);
        Due.is("changes", dice.count(12), 1);
    }

    @Sentence("Returns how many throws there were")
    private static void forgottenThrows() {
        ObedientDice dice = new ObedientDice();
        Due.is("of none", dice.forget(4), 0);
        Games.rollTo(dice, 1000);
        Due.is("of the most", dice.forget(4), 1000);
        Due.is("of none again", dice.forget(4), 0);
        dice.roll(1);
        Due.is("of one", dice.forget(4), 1);
    }

    @Sentence("Forgets what was thrown, and changes the number that throws.")
    private static void forgotten() {
        ObedientDice dice = Texts.game(Games.CHICKEN);
        Games.weigh(dice, 1, 2, 3, 4);
        String before = Whole.state(dice);
        dice.roll(77);
        dice.forget(1);
        Due.is("the state", Whole.state(dice), before);
        Due.is("throws", dice.count(7), 0);
        Due.is("points by throws", dice.count(9), 100000);
        Due.is("regret", dice.inequality(2, 4), 1000000);
        Due.is("throws the same again", dice.roll(77), Games.with(1, 2, 3, 4).roll(77));
    }

    // ---- promise 9: read

    @Sentence("BAD_TEXT if the pad has a fault.")
    private static void readWithFault() {
        String[] texts = {"", "1", "1,1;1,1/1,1", "1,1/1,1", "1,1;1,1/1,1;1,1;", "1,1;1,1/1,1;1,1;1,1", "1,1;1,1;1,1/1,1;1,1",
            "1,1;1,1/1,1;1,-", "x", "1,1;1,1/1,1;1,1x", "1,1;1,1/1,1;1,10", "1,1;1,1/1,1;1,1/", "1".repeat(60)};
        for (String text : texts) {
            ObedientDice dice = Texts.game(Games.CHICKEN);
            String before = Whole.state(dice);
            Texts.put(dice, text);
            Due.is("read() of " + text, dice.read(), ObedientDice.BAD_TEXT);
            Due.is("the pad", dice.count(11), text.length());
            Due.is("the state", Whole.state(dice), before);
            Due.is("changes", dice.count(12), 1);
        }
    }

    @Sentence("Returns how many columns it has")
    private static void readTellsTheColumns() {
        ObedientDice dice = new ObedientDice();
        Texts.put(dice, Games.FLAT_3);
        Due.is("read() of 3", dice.read(), 3);
        Due.is("columns", dice.count(0), 3);
        Texts.put(dice, Games.FLAT_2);
        Due.is("read() of 2", dice.read(), 2);
        Due.is("columns", dice.count(0), 2);
    }

    @Sentence("Begins anew with the game of the pad (as begin()), and empties the pad.")
    private static void readBeginsAnew() {
        ObedientDice dice = wide();
        Games.allPoints(dice, 0, 9);
        Games.weigh(dice, 0, 0, 9, 9, 0, 0);
        dice.roll(25);
        int x = dice.count(10);
        Texts.put(dice, "-9,9;0,-0/-0,0;9,-9");
        Due.is("read()", dice.read(), 2);
        Due.is("the state", Whole.state(dice), "2 x " + x + ": 91 109 1 0 100 100 1 0 100 100 1 0 109 91 1 0");
        Due.is("the pad", dice.count(11), 0);
        Due.is("read() of the pad then", dice.read(), ObedientDice.BAD_TEXT);
        dice.undo();
        Due.is("columns after an undo", dice.count(0), 3);
        Due.is("the pad stays empty", dice.count(11), 0);
        Texts.put(dice, "1,2;3,4;5,6/7,8;9,-1;-2,-3");
        Due.is("read()", dice.read(), 3);
        Due.is("the state", Whole.state(dice), "3 x " + x
            + ": 101 102 1 0 103 104 1 0 105 106 1 0 107 108 1 0 109 99 1 0 98 97 1 0");
    }

    @Sentence("(\"-0\" is 0)")
    private static void readMinus0() {
        ObedientDice dice = Texts.game("-0,-0;-0,-0/-0,-0;-0,-0");
        Due.is("the state", Whole.state(dice), "2 x 1:" + " 100 100 1 0".repeat(4));
    }

    public static void main(String[] args) throws ReflectiveOperationException {
        Due.sentences(ChangesTest.class);
    }
}
