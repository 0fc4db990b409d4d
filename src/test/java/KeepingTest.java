import java.util.function.Consumer;

/** The boundary cases of the promises 21 to 23: undo, save and restore. */
public final class KeepingTest {
    private static final int BAD_VALUE = ObedientDice.BAD_VALUE;
    private static final int NOT_POSSIBLE = ObedientDice.NOT_POSSIBLE;

    private KeepingTest() {
    }

    /** Each change of the interface, made so that something is different then. */
    private static void change(ObedientDice dice, int kind) {
        switch (kind) {
            case 0: dice.begin(3); break;
            case 1: dice.points(1, 1, 0, 7); break;
            case 2: dice.weigh(1, 1, 17); break;
            case 3: dice.take(0); break;
            case 4: dice.mix(1, 2, 3); break;
            case 5: dice.roll(13); break;
            case 6: dice.forget(99); break;
            case 7: Texts.put(dice, Games.BATTLE); dice.read(); break;
            default: dice.restore(0);
        }
    }

    private static final int KINDS = 9;

    /** Something saved in the slot 0, and another game of now, with weights, and throws. */
    private static ObedientDice used() {
        ObedientDice dice = Texts.game(Games.PRISON);
        dice.roll(3);
        dice.save(0);
        Texts.put(dice, Games.CHICKEN);
        dice.read();
        Games.weigh(dice, 3, 1, 4, 2);
        dice.roll(9);
        return dice;
    }

    // ---- promise 21: undo

    @Sentence("Undoes the latest change: everything except the pad, the slots and the history is as it was before it.")
    private static void undoOfEachChange() {
        for (int kind = 0; kind < KINDS; kind++) {
            ObedientDice dice = used();
            String before = Whole.state(dice);
            int best = dice.best(2, 1);
            change(dice, kind);
            Due.is("changed by " + kind, Whole.state(dice).equals(before) ? 1 : 0, 0);
            Due.is("undo() of " + kind, dice.undo(), 5);
            Due.is("the state after an undo of " + kind, Whole.state(dice), before);
            Due.is("the best worth after it", dice.best(2, 1), best);
        }
    }

    @Sentence("everything except the pad")
    private static void undoLeavesThePad() {
        ObedientDice dice = new ObedientDice();
        dice.weigh(0, 0, 3);
        Texts.put(dice, "1,1;");
        dice.undo();
        Due.is("what was put stays", dice.count(11), 4);
        Due.is("its fault", dice.fault(), 4);
        dice.weigh(0, 0, 3);
        dice.wipe();
        dice.undo();
        Due.is("what was wiped stays away", dice.count(11), 0);
        Texts.put(dice, Games.FLAT_3);
        dice.read();
        Due.is("undo() of read()", dice.undo(), 0);
        Due.is("columns", dice.count(0), 2);
        Due.is("what was read stays away", dice.count(11), 0);
    }

    @Sentence("everything except the pad, the slots")
    private static void undoLeavesTheSlots() {
        ObedientDice dice = new ObedientDice();
        dice.weigh(0, 0, 3);
        dice.save(0);
        dice.undo();
        Due.is("the weight", dice.cell(0, 0, 2), 1);
        Due.is("what was saved is there", dice.restore(0), 0);
        Due.is("the weight", dice.cell(0, 0, 2), 3);
        dice.undo();
        dice.undo();
        Due.is("what was restored is there still", dice.restore(0), 0);
        Due.is("the weight", dice.cell(0, 0, 2), 3);
    }

    @Sentence("A history of at most 6 states is kept")
    private static void sixStates() {
        for (int changes = 0; changes < 20; changes++) {
            ObedientDice dice = new ObedientDice();
            for (int weight = 2; weight < changes + 2; weight++) {
                dice.weigh(0, 0, weight);
            }
            int kept = Math.min(6, changes);
            Due.is("changes", dice.count(12), kept);
            for (int left = kept - 1; left >= 0; left--) {
                Due.is("undo()", dice.undo(), left);
                Due.is("the weight", dice.cell(0, 0, 2), changes - kept + left + 1);
            }
            Due.is("undo() beyond them", dice.undo(), NOT_POSSIBLE);
            Due.is("the weight", dice.cell(0, 0, 2), changes - kept + 1);
        }
    }

    @Sentence("records the state before it (also if nothing is different then)")
    private static void changesOfNothing() {
        recordsNothingNew("begin", d -> d.begin(2));
        recordsNothingNew("points", d -> d.points(0, 0, 0, 0));
        recordsNothingNew("weigh", d -> d.weigh(1, 1, 1));
        recordsNothingNew("mix", d -> d.mix(0, 1, 0));
        recordsNothingNew("forget", d -> d.forget(1));
        recordsNothingNew("read", d -> {
            Texts.put(d, Games.FLAT_2);
            d.read();
        });
        recordsNothingNew("restore", d -> {
            d.save(1);
            d.restore(1);
        });
        ObedientDice dice = new ObedientDice();
        dice.take(2);
        dice.take(2);
        Due.is("take the same again", dice.undo(), 1);
        Games.weightsAre(dice, 0, 0, 1, 0);
    }

    private static void recordsNothingNew(String call, Consumer<ObedientDice> change) {
        ObedientDice dice = new ObedientDice();
        change.accept(dice);
        Due.is("the state after " + call, Whole.state(dice), Whole.state(new ObedientDice()));
        Due.is("changes", dice.count(12), 1);
        Due.is("undo() of " + call, dice.undo(), 0);
        Due.is("the state then", Whole.state(dice), Whole.state(new ObedientDice()));
    }

    @Sentence("each method that is a change, and returns no error, records")
    private static void whatRecords() {
        for (int kind = 0; kind < KINDS; kind++) {
            ObedientDice dice = new ObedientDice();
            dice.save(0);
            change(dice, kind);
            Due.is("changes after " + kind, dice.count(12), 1);
        }
        ObedientDice dice = Texts.game(Games.CHICKEN);
        dice.roll(1);
        dice.put(49);
        dice.wipe();
        dice.fault();
        dice.save(0);
        dice.cell(0, 0, 5);
        dice.inequality(0, 3);
        dice.worth(2);
        dice.extreme(0, 0);
        dice.best(0, 0);
        dice.neverTold(0);
        dice.sure();
        Due.is("what is no change records nothing", dice.count(12), 2);
        Due.is("undo() records nothing", dice.undo(), 1);
        Due.is("nor does it twice", dice.undo(), 0);
    }

    @Sentence("when one more is recorded, the oldest one is dropped")
    private static void oldestDropped() {
        ObedientDice dice = new ObedientDice();
        for (int columns : new int[] {3, 2, 2, 2, 2, 2}) {
            dice.begin(columns);
        }
        Due.is("changes", dice.count(12), 6);
        dice.points(0, 0, 0, 5);
        Due.is("changes", dice.count(12), 6);
        for (int left = 5; left >= 0; left--) {
            Due.is("undo()", dice.undo(), left);
        }
        Due.is("the state behind the first change is the oldest one now", dice.count(0), 3);
        Due.is("undo()", dice.undo(), NOT_POSSIBLE);
        Due.is("columns", dice.count(0), 3);
        dice.begin(2);
        Due.is("changes", dice.count(12), 1);
    }

    @Sentence("when one more is recorded")
    private static void changesBetweenUndos() {
        ObedientDice dice = new ObedientDice();
        dice.weigh(0, 0, 2);
        dice.weigh(0, 0, 3);
        dice.weigh(0, 0, 4);
        dice.undo();
        dice.undo();
        dice.weigh(0, 0, 5);
        Due.is("changes", dice.count(12), 2);
        Due.is("undo()", dice.undo(), 1);
        Due.is("the weight", dice.cell(0, 0, 2), 2);
        Due.is("undo()", dice.undo(), 0);
        Due.is("the weight", dice.cell(0, 0, 2), 1);
        for (int weight = 10; weight < 20; weight++) {
            dice.weigh(0, 0, weight);
            dice.undo();
            dice.weigh(0, 0, weight);
        }
        Due.is("changes", dice.count(12), 6);
        for (int left = 5; left >= 0; left--) {
            Due.is("undo()", dice.undo(), left);
            Due.is("the weight", dice.cell(0, 0, 2), 13 + left);
        }
    }

    @Sentence("Returns how many changes can be undone then; NOT_POSSIBLE if there is none.")
    private static void nothingToUndo() {
        ObedientDice dice = new ObedientDice();
        Due.is("undo()", dice.undo(), NOT_POSSIBLE);
        dice.begin(1);
        dice.save(0);
        Due.is("undo()", dice.undo(), NOT_POSSIBLE);
        dice.roll(1);
        Due.is("undo()", dice.undo(), 0);
        Due.is("undo()", dice.undo(), NOT_POSSIBLE);
        Due.is("the state", Whole.state(dice), Whole.state(new ObedientDice()));
    }

    // ---- promise 22: save

    @Sentence("slot: 0 or 1")
    private static void twoSlots() {
        ObedientDice dice = new ObedientDice();
        dice.weigh(0, 0, 10);
        Due.is("save(0)", dice.save(0), 0);
        dice.weigh(0, 0, 11);
        Due.is("save(1)", dice.save(1), 0);
        dice.weigh(0, 0, 12);
        dice.restore(0);
        Due.is("of the slot 0", dice.cell(0, 0, 2), 10);
        dice.restore(1);
        Due.is("of the slot 1", dice.cell(0, 0, 2), 11);
    }

    @Sentence("BAD_VALUE if there is no such slot.")
    private static void noSlotToSave() {
        ObedientDice dice = new ObedientDice();
        for (int slot : new int[] {2, 3, -1, Integer.MIN_VALUE, Integer.MAX_VALUE}) {
            Due.is("save(" + slot + ")", dice.save(slot), BAD_VALUE);
        }
        Due.is("restore(0)", dice.restore(0), NOT_POSSIBLE);
        Due.is("restore(1)", dice.restore(1), NOT_POSSIBLE);
    }

    @Sentence("overwrites what was saved there.")
    private static void saveOverwrites() {
        ObedientDice dice = used();
        dice.save(1);
        Due.is("save(0) over it", dice.save(0), 9);
        String saved = Whole.state(dice);
        dice.begin(3);
        Due.is("restore(0)", dice.restore(0), 9);
        Due.is("the state", Whole.state(dice), saved);
        dice.begin(3);
        Due.is("save(0) over it", dice.save(0), 0);
        Due.is("restore(1)", dice.restore(1), 9);
        Due.is("the state", Whole.state(dice), saved);
        Due.is("restore(0)", dice.restore(0), 0);
        Due.is("columns", dice.count(0), 3);
    }

    @Sentence("Saves everything except the pad, the history and the slots in a slot")
    private static void whatIsSaved() {
        ObedientDice dice = used();
        Texts.put(dice, "1,1;");
        dice.save(1);
        String saved = Whole.state(dice);
        Due.is("saving changes nothing", dice.count(12), 6);
        dice.put(49);
        for (int kind = 0; kind < KINDS; kind++) {
            dice.wipe();
            change(dice, kind);
            dice.wipe();
            Texts.put(dice, "22");
            dice.restore(1);
            Due.is("the state, changed by " + kind, Whole.state(dice), saved);
            Due.is("the pad isn't saved", dice.count(11), 2);
            Due.is("the history isn't saved", dice.count(12), 6);
        }
    }

    @Sentence("Returns how many throws there are; BAD_VALUE if there is no such slot.")
    private static void throwsSaved() {
        ObedientDice dice = new ObedientDice();
        Due.is("none", dice.save(0), 0);
        dice.roll(1);
        Due.is("one", dice.save(0), 1);
        Games.rollTo(dice, 1000);
        Due.is("the most", dice.save(1), 1000);
        dice.begin(2);
        Due.is("none again", dice.save(0), 0);
        Due.is("the most restored", dice.restore(1), 1000);
        Due.is("no more of them", dice.roll(1), ObedientDice.TOO_MANY);
        Due.is("none restored", dice.restore(0), 0);
    }

    // ---- promise 23: restore

    @Sentence("Restores what was saved last in a slot, which keeps it.")
    private static void slotKeepsIt() {
        ObedientDice dice = used();
        dice.save(1);
        String saved = Whole.state(dice);
        for (int i = 0; i < 3; i++) {
            change(dice, i);
            Due.is("restore(1)", dice.restore(1), 9);
            Due.is("the state", Whole.state(dice), saved);
        }
        // what changes the restored state doesn't change the saved one
        dice.points(0, 0, 0, -5);
        dice.weigh(0, 0, 500);
        dice.roll(50);
        dice.restore(1);
        Due.is("the state", Whole.state(dice), saved);
        dice.undo();
        dice.undo();
        dice.restore(1);
        Due.is("the state", Whole.state(dice), saved);
    }

    @Sentence("Restores what was saved last in a slot, which keeps it. This is a change.")
    private static void restoreIsAChange() {
        ObedientDice dice = used();
        String before = Whole.state(dice);
        Due.is("restore(0)", dice.restore(0), 3);
        Due.is("changes", dice.count(12), 6);
        Due.is("undo()", dice.undo(), 5);
        Due.is("the state", Whole.state(dice), before);
    }

    @Sentence("Returns how many throws there are then")
    private static void throwsRestored() {
        ObedientDice dice = new ObedientDice();
        dice.save(0);
        dice.roll(100);
        dice.save(1);
        dice.roll(7);
        Due.is("none", dice.restore(0), 0);
        Due.is("throws", dice.count(7), 0);
        Due.is("some", dice.restore(1), 100);
        Due.is("throws", dice.count(7), 100);
    }

    @Sentence("BAD_VALUE if there is no such slot")
    private static void noSlotToRestore() {
        ObedientDice dice = new ObedientDice();
        for (int saved = 0; saved < 2; saved++) {
            for (int slot : new int[] {2, 3, -1, Integer.MIN_VALUE, Integer.MAX_VALUE}) {
                Due.is("restore(" + slot + ")", dice.restore(slot), BAD_VALUE);
            }
            dice.save(0);
            dice.save(1);
        }
        Due.is("changes", dice.count(12), 0);
    }

    @Sentence("NOT_POSSIBLE if nothing was saved in it.")
    private static void nothingSaved() {
        for (int slot = 0; slot < 2; slot++) {
            ObedientDice dice = new ObedientDice();
            Due.is("restore(" + slot + ")", dice.restore(slot), NOT_POSSIBLE);
            dice.save(1 - slot);
            Due.is("only the other one was saved", dice.restore(slot), NOT_POSSIBLE);
            Due.is("changes", dice.count(12), 0);
            Due.is("the other one", dice.restore(1 - slot), 0);
            dice.begin(3);
            dice.save(slot);
            Due.is("saved now", dice.restore(slot), 0);
        }
    }

    public static void main(String[] args) throws ReflectiveOperationException {
        Due.sentences(KeepingTest.class);
    }
}
