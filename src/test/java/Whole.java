/** What an object holds, as a text; two objects with the same one can't be told apart. */
final class Whole {
    private Whole() {
    }

    /** What is saved and undone: 26 calls at most. */
    static String state(ObedientDice dice) {
        StringBuilder text = new StringBuilder();
        int columns = dice.count(0);
        text.append(columns).append(" x ").append(dice.count(10)).append(':');
        for (int cell = 0; cell < 2 * columns; cell++) {
            for (int what = 0; what < 4; what++) {
                text.append(' ').append(dice.cell(cell / columns, cell % columns, what));
            }
        }
        return text.toString();
    }

    /** The state, the pad, the history and the slots. The object is used up by it: about 300 calls. */
    static String everything(ObedientDice dice) {
        StringBuilder text = new StringBuilder(state(dice));
        text.append("\npad ").append(dice.count(11)).append(' ').append(dice.fault());
        int left = dice.count(12);
        text.append("\nhistory ").append(left);
        while (left > 0) {
            left = dice.undo();
            text.append("\nundo ").append(left).append(' ').append(state(dice));
        }
        text.append("\nundo ").append(dice.undo());
        for (int slot = 0; slot < 2; slot++) {
            text.append("\nslot ").append(dice.restore(slot)).append(' ').append(state(dice));
        }
        text.append("\nread ").append(dice.read()).append(' ').append(state(dice));
        return text.toString();
    }
}
