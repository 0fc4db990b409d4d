import java.util.function.ToIntFunction;

/** The conventions of errors: the first one that applies is returned, and a call that returns one changes nothing. */
public final class RefusalTest {
    private static final int NO_SUCH = ObedientDice.NO_SUCH;
    private static final int BAD_VALUE = ObedientDice.BAD_VALUE;
    private static final int BAD_TEXT = ObedientDice.BAD_TEXT;
    private static final int TOO_MANY = ObedientDice.TOO_MANY;
    private static final int NOT_POSSIBLE = ObedientDice.NOT_POSSIBLE;

    private RefusalTest() {
    }

    /** Three columns, 901 throws, a full history, both slots, and a game with a fault at its end on the pad. */
    private static ObedientDice used() {
        ObedientDice dice = Texts.game(Games.BATTLE);
        dice.roll(4);
        dice.save(0);
        Texts.put(dice, Games.UP_TO_1000);
        dice.read();
        dice.save(1);
        Games.weigh(dice, 1, 2, 3, 4, 5, 500);
        Games.rollTo(dice, 901);
        Texts.put(dice, "1,2;3,4/5,6;7,!");
        return dice;
    }

    /** One column of weight, nothing saved, nothing to undo but one change, a full pad. */
    private static ObedientDice fresh() {
        ObedientDice dice = new ObedientDice();
        Texts.put(dice, Games.FLAT_2 + "0".repeat(45));
        dice.take(3);
        return dice;
    }

    private static void refused(String call, int error, ToIntFunction<ObedientDice> made) {
        ObedientDice dice = used();
        Due.is(call, made.applyAsInt(dice), error);
        Due.is("everything after " + call, Whole.everything(dice), Whole.everything(used()));
    }

    private static void refusedAtFirst(String call, int error, ToIntFunction<ObedientDice> made) {
        ObedientDice dice = fresh();
        Due.is(call, made.applyAsInt(dice), error);
        Due.is("everything after " + call, Whole.everything(dice), Whole.everything(fresh()));
    }

    @Sentence("A call that returns an error changes nothing.")
    private static void begins() {
        refused("begin(1)", BAD_VALUE, d -> d.begin(1));
        refused("begin(4)", BAD_VALUE, d -> d.begin(4));
        refusedAtFirst("begin(0)", BAD_VALUE, d -> d.begin(0));
    }

    @Sentence("A call that returns an error changes nothing.")
    private static void pointsOfCells() {
        refused("points(2, 0, 0, 9)", NO_SUCH, d -> d.points(2, 0, 0, 9));
        refused("points(-1, 0, 0, 9)", NO_SUCH, d -> d.points(-1, 0, 0, 9));
        refused("points(0, 2, 0, 9)", NO_SUCH, d -> d.points(0, 2, 0, 9));
        refused("points(0, 0, 3, 9)", NO_SUCH, d -> d.points(0, 0, 3, 9));
        refused("points(0, 0, -1, 9)", NO_SUCH, d -> d.points(0, 0, -1, 9));
        refused("points(1, 1, 2, 10)", BAD_VALUE, d -> d.points(1, 1, 2, 10));
        refused("points(1, 1, 2, -10)", BAD_VALUE, d -> d.points(1, 1, 2, -10));
        refusedAtFirst("points(0, 0, 2, 9)", NO_SUCH, d -> d.points(0, 0, 2, 9));
    }

    @Sentence("A call that returns an error changes nothing.")
    private static void weights() {
        refused("weigh(2, 0, 9)", NO_SUCH, d -> d.weigh(2, 0, 9));
        refused("weigh(0, 3, 9)", NO_SUCH, d -> d.weigh(0, 3, 9));
        refused("weigh(1, 2, 1000)", BAD_VALUE, d -> d.weigh(1, 2, 1000));
        refused("weigh(1, 2, -1)", BAD_VALUE, d -> d.weigh(1, 2, -1));
        refusedAtFirst("weigh(0, 2, 9)", NO_SUCH, d -> d.weigh(0, 2, 9));
        refusedAtFirst("weigh(1, 1, 0)", NOT_POSSIBLE, d -> d.weigh(1, 1, 0));
    }

    @Sentence("A call that returns an error changes nothing.")
    private static void takenAndMixed() {
        refused("take(11)", NO_SUCH, d -> d.take(11));
        refused("take(-1)", NO_SUCH, d -> d.take(-1));
        // only the cell 4 is above 999, the cells before it are not
        refused("take(5)", TOO_MANY, d -> d.take(5));
        refused("mix(11, 1, 1)", NO_SUCH, d -> d.mix(11, 1, 1));
        refused("mix(0, 10, 1)", BAD_VALUE, d -> d.mix(0, 10, 1));
        refused("mix(0, 1, 10)", BAD_VALUE, d -> d.mix(0, 1, 10));
        refused("mix(0, 0, 0)", BAD_VALUE, d -> d.mix(0, 0, 0));
        // only the last cell is above 999
        refused("mix(0, 2, 1)", TOO_MANY, d -> d.mix(0, 2, 1));
        refusedAtFirst("take(4)", NO_SUCH, d -> d.take(4));
        refusedAtFirst("mix(4, 1, 1)", NO_SUCH, d -> d.mix(4, 1, 1));
    }

    @Sentence("A call that returns an error changes nothing.")
    private static void thrown() {
        refused("roll(0)", BAD_VALUE, d -> d.roll(0));
        refused("roll(101)", BAD_VALUE, d -> d.roll(101));
        // 99 of them would still be possible
        refused("roll(100)", TOO_MANY, d -> d.roll(100));
        refused("forget(-1)", BAD_VALUE, d -> d.forget(-1));
        refusedAtFirst("roll(-1)", BAD_VALUE, d -> d.roll(-1));
        refusedAtFirst("forget(-1)", BAD_VALUE, d -> d.forget(-1));
    }

    @Sentence("A call that returns an error changes nothing.")
    private static void texts() {
        refused("read()", BAD_TEXT, ObedientDice::read);
        refused("put(0)", BAD_VALUE, d -> d.put(0));
        // seven characters of it are right
        refused("put of a blank", BAD_VALUE, d -> d.put(Texts.packed("1111111 ")));
        refused("put of a blank first", BAD_VALUE, d -> d.put(Texts.packed(" 1111111")));
        refusedAtFirst("put(49)", TOO_MANY, d -> d.put(49));
        refusedAtFirst("read()", BAD_TEXT, ObedientDice::read);
        // seven of eight would still be possible
        ObedientDice dice = new ObedientDice();
        Texts.put(dice, "1".repeat(53));
        Due.is("put of eight at 53", dice.put(Texts.packed("11111111")), TOO_MANY);
        Due.is("length", dice.count(11), 53);
    }

    @Sentence("A call that returns an error changes nothing.")
    private static void looks() {
        refused("cell(2, 0, 0)", NO_SUCH, d -> d.cell(2, 0, 0));
        refused("cell(0, 0, 6)", BAD_VALUE, d -> d.cell(0, 0, 6));
        refused("inequality(8, 0)", NO_SUCH, d -> d.inequality(8, 0));
        refused("inequality(0, 5)", BAD_VALUE, d -> d.inequality(0, 5));
        refused("count(13)", BAD_VALUE, d -> d.count(13));
        refused("worth(3)", BAD_VALUE, d -> d.worth(3));
        refused("extreme(11, 0)", NO_SUCH, d -> d.extreme(11, 0));
        refused("extreme(0, 9)", BAD_VALUE, d -> d.extreme(0, 9));
        refused("best(3, 0)", BAD_VALUE, d -> d.best(3, 0));
        refused("best(0, 2)", BAD_VALUE, d -> d.best(0, 2));
        refused("neverTold(2)", NO_SUCH, d -> d.neverTold(2));
    }

    @Sentence("A call that returns an error changes nothing.")
    private static void kept() {
        refused("save(2)", BAD_VALUE, d -> d.save(2));
        refused("save(-1)", BAD_VALUE, d -> d.save(-1));
        refused("restore(2)", BAD_VALUE, d -> d.restore(2));
        refusedAtFirst("restore(0)", NOT_POSSIBLE, d -> d.restore(0));
        refusedAtFirst("restore(1)", NOT_POSSIBLE, d -> d.restore(1));
        ObedientDice dice = fresh();
        dice.undo();
        String before = Whole.state(dice);
        Due.is("undo()", dice.undo(), NOT_POSSIBLE);
        Due.is("the state", Whole.state(dice), before);
    }

    @Sentence("it names its errors in the order in which they are checked, and the first one that applies is returned")
    private static void noSuchFirst() {
        ObedientDice dice = used();
        Due.is("points, no row and out of range", dice.points(0, 2, 0, 10), NO_SUCH);
        Due.is("points, no player and out of range", dice.points(2, 0, 0, 10), NO_SUCH);
        Due.is("weigh, no row and out of range", dice.weigh(2, 0, 1000), NO_SUCH);
        Due.is("weigh, no column and out of range", dice.weigh(0, 3, -1), NO_SUCH);
        Due.is("mix, no dice and out of range", dice.mix(11, 10, 0), NO_SUCH);
        Due.is("mix, no dice and both 0", dice.mix(-1, 0, 0), NO_SUCH);
        Due.is("mix, no dice and too many", dice.mix(11, 9, 9), NO_SUCH);
        Due.is("cell, no row and out of range", dice.cell(2, 0, 6), NO_SUCH);
        Due.is("cell, no column and out of range", dice.cell(0, 3, -1), NO_SUCH);
        Due.is("inequality, none and out of range", dice.inequality(8, 5), NO_SUCH);
        Due.is("extreme, none and out of range", dice.extreme(11, 9), NO_SUCH);
        dice = fresh();
        Due.is("weigh, no row and all 0", dice.weigh(2, 1, 0), NO_SUCH);
        Due.is("weigh, no column and all 0", dice.weigh(1, 2, 0), NO_SUCH);
        Due.is("extreme, none and a cell that there is not", dice.extreme(4, 5), NO_SUCH);
    }

    @Sentence("it names its errors in the order in which they are checked, and the first one that applies is returned")
    private static void badValueNext() {
        ObedientDice dice = used();
        Due.is("mix, out of range and too many", dice.mix(0, 10, 9), BAD_VALUE);
        Due.is("mix, out of range and too many", dice.mix(5, 9, 10), BAD_VALUE);
        Due.is("roll, out of range and too many", dice.roll(101), BAD_VALUE);
        Games.rollTo(dice, 1000);
        Due.is("roll, out of range and too many", dice.roll(101), BAD_VALUE);
        Due.is("roll, out of range, no throws are left", dice.roll(0), BAD_VALUE);
        Due.is("roll, no throws are left", dice.roll(1), TOO_MANY);
        dice = fresh();
        Due.is("weigh, below 0 and none left", dice.weigh(1, 1, -1), BAD_VALUE);
        Due.is("put, no character in a full pad", dice.put(0), BAD_VALUE);
        Due.is("put, a wrong character in a full pad", dice.put(32), BAD_VALUE);
        Due.is("put, a bit above in a full pad", dice.put(1L << 40 | 49), BAD_VALUE);
        Due.is("put, a full pad", dice.put(49), TOO_MANY);
        Due.is("restore, no slot and nothing saved", dice.restore(2), BAD_VALUE);
        Due.is("restore, nothing saved", dice.restore(1), NOT_POSSIBLE);
    }

    @Sentence("one of the error codes NO_SUCH (-1), BAD_VALUE (-2), BAD_TEXT (-3), TOO_MANY (-4) and NOT_POSSIBLE (-5)")
    private static void codes() {
        ObedientDice dice = used();
        Due.is("NO_SUCH", dice.take(11), -1);
        Due.is("BAD_VALUE", dice.begin(1), -2);
        Due.is("BAD_TEXT", dice.read(), -3);
        Due.is("TOO_MANY", dice.take(5), -4);
        Due.is("NOT_POSSIBLE", new ObedientDice().undo(), -5);
        Due.is("NO_SUCH", NO_SUCH, -1);
        Due.is("BAD_VALUE", BAD_VALUE, -2);
        Due.is("BAD_TEXT", BAD_TEXT, -3);
        Due.is("TOO_MANY", TOO_MANY, -4);
        Due.is("NOT_POSSIBLE", NOT_POSSIBLE, -5);
    }

    public static void main(String[] args) throws ReflectiveOperationException {
        Due.sentences(RefusalTest.class);
    }
}
