/** The boundary cases of the texts, and of the promises 18 to 20: put, wipe and fault. */
public final class PadTest {
    private static final int BAD_VALUE = ObedientDice.BAD_VALUE;
    private static final int TOO_MANY = ObedientDice.TOO_MANY;
    private static final int NONE = ObedientDice.NONE;

    private PadTest() {
    }

    // ---- the terms

    @Sentence("The pad is a text of at most 60 characters")
    private static void mostCharacters() {
        ObedientDice dice = new ObedientDice();
        Due.is("put of 60", Texts.put(dice, "1".repeat(60)), 60);
        Due.is("put of one more", dice.put(49), TOO_MANY);
        Due.is("length", dice.count(11), 60);
        Due.is("fault", dice.fault(), 1);
        Due.is("wipe", dice.wipe(), 60);
    }

    /** Behind the text only these signs can stand, and every other one from 33 to 126 is a fault there. */
    private static void signsBehind(String text, String signs, String ends) {
        for (char sign = 33; sign <= 126; sign++) {
            int due = text.length();
            if (signs.indexOf(sign) >= 0) {
                due = ends.indexOf(sign) >= 0 ? NONE : text.length() + 1;
            }
            Due.is("fault of " + text + sign, Texts.fault(text + sign), due);
        }
    }

    @Sentence("text = row \"/\" row; row = cell { \";\" cell }; cell = number \",\" number; number = [ \"-\" ] digit.")
    private static void grammar() {
        String digits = "0123456789";
        signsBehind("", "-" + digits, "");
        signsBehind("-", digits, "");
        signsBehind("1", ",", "");
        signsBehind("-1", ",", "");
        signsBehind("1,", "-" + digits, "");
        signsBehind("1,-", digits, "");
        signsBehind("1,1;", "-" + digits, "");
        signsBehind("1,1;1,1/", "-" + digits, "");
        signsBehind("1,1;1,1/1", ",", "");
        signsBehind("1,1;1,1/1,1;1,", "-" + digits, digits);
        signsBehind("1,1;1,1/1,1;1,-", digits, digits);
        signsBehind("1,1;1,1;1,1/1,1;1,1;1,", "-" + digits, digits);
    }

    @Sentence("Both rows have as many cells, 2 or 3")
    private static void asManyCells() {
        signsBehind("1,1", ";", "");
        signsBehind("1,1;1,1", ";/", "");
        signsBehind("1,1;1,1;1,1", "/", "");
        signsBehind("1,1;1,1/1,1", ";", "");
        signsBehind("1,1;1,1/1,1;1,1", "", "");
        signsBehind("1,1;1,1;1,1/1,1", ";", "");
        signsBehind("1,1;1,1;1,1/1,1;1,1", ";", "");
        signsBehind("1,1;1,1;1,1/1,1;1,1;1,1", "", "");
        signsBehind("-1,-1;-1,-1/-1,-1;-1,-1", "", "");
    }

    @Sentence("a cell is the points of the player 0 and of the player 1 (\"-0\" is 0)")
    private static void pointsOfACell() {
        ObedientDice dice = Texts.game("-9,9;-0,8/0,-0;7,-8");
        int[] points = {91, 109, 100, 108, 100, 100, 107, 92};
        for (int i = 0; i < points.length; i++) {
            Due.is("the points " + i, dice.cell(i / 4, i / 2 % 2, i % 2), points[i]);
        }
    }

    @Sentence("number = [ \"-\" ] digit")
    private static void minusOfAnotherText() {
        for (String text : new String[] {"-", "1,-", "1,1;--", "1,1;1,1/1,-x"}) {
            ObedientDice dice = new ObedientDice();
            Texts.put(dice, text);
            Due.is("fault behind a minus", dice.fault(), Math.min(text.length(), text.indexOf('-') + 1));
            dice.wipe();
            Texts.put(dice, "1,2;3,4/5,6;7,8");
            Due.is("read", dice.read(), 2);
            Due.is("no minus is left of it", dice.cell(0, 0, 0), 101);
            Due.is("nor here", dice.cell(0, 0, 1), 102);
        }
    }

    @Sentence("a \"/\" behind one cell")
    private static void slashBehindOneCell() {
        Due.is("fault", Texts.fault("1,1/1,1"), 3);
        Due.is("fault with minuses", Texts.fault("-1,-1/1,1"), 5);
        Due.is("behind two cells", Texts.fault("1,1;1,1/1,1;1,1"), NONE);
    }

    @Sentence("a \";\" behind the third cell")
    private static void semicolonBehindTheThirdCell() {
        Due.is("fault", Texts.fault("1,1;1,1;1,1;1,1/1,1;1,1;1,1;1,1"), 11);
        Due.is("behind the second cell", Texts.fault("1,1;1,1;1,1/1,1;1,1;1,1"), NONE);
        Due.is("behind the third cell of the second row", Texts.fault("1,1;1,1;1,1/1,1;1,1;1,1;"), 23);
    }

    @Sentence("a \"/\" or \";\" that gives the second row other cells than the first one")
    private static void otherCellsInTheSecondRow() {
        Due.is("; behind two, as in the first row", Texts.fault("1,1;1,1/1,1;1,1;1,1"), 15);
        Due.is("/ behind one of two", Texts.fault("1,1;1,1/1,1/"), 11);
        Due.is("/ behind two of two", Texts.fault("1,1;1,1/1,1;1,1/"), 15);
        Due.is("/ behind one of three", Texts.fault("1,1;1,1;1,1/1,1/"), 15);
        Due.is("/ behind two of three", Texts.fault("1,1;1,1;1,1/1,1;1,1/"), 19);
        Due.is("/ behind three of three", Texts.fault("1,1;1,1;1,1/1,1;1,1;1,1/1,1"), 23);
    }

    @Sentence("if there is none and the text ends too early (also if it is empty), it is the length of the text")
    private static void endsTooEarly() {
        Due.is("empty", Texts.fault(""), 0);
        for (String text : new String[] {"1,2;3,4/5,6;7,8", "-1,-2;-3,-4;-5,-6/-7,-8;-9,-0;-1,-2"}) {
            for (int end = 0; end < text.length(); end++) {
                Due.is("fault of " + text.substring(0, end), Texts.fault(text.substring(0, end)), end);
            }
            Due.is("fault of " + text, Texts.fault(text), NONE);
        }
    }

    @Sentence("The fault is the index of the first character that cannot stand at its place")
    private static void firstFault() {
        Due.is("the first of several", Texts.fault("1,1;x;y"), 4);
        Due.is("the very first", Texts.fault("/1,1;1,1/1,1;1,1"), 0);
        Due.is("behind a whole game", Texts.fault("1,1;1,1/1,1;1,1x"), 15);
        Due.is("the last of 60", Texts.fault("x" + "1".repeat(59)), 0);
    }

    // ---- promise 18: put

    @Sentence("characters: 1 to 8 characters")
    private static void howManyCharacters() {
        for (int many = 1; many <= 8; many++) {
            ObedientDice dice = new ObedientDice();
            Due.is("put of " + many, dice.put(Texts.packed("12345678".substring(0, many))), many);
            Due.is("length", dice.count(11), many);
        }
    }

    @Sentence("BAD_VALUE if there is no character")
    private static void noCharacter() {
        ObedientDice dice = new ObedientDice();
        Due.is("put(0)", dice.put(0), BAD_VALUE);
        dice.put(49);
        Due.is("put(0)", dice.put(0), BAD_VALUE);
        Due.is("length", dice.count(11), 1);
    }

    @Sentence("a code is not 33 to 126")
    private static void codes() {
        for (int code = 1; code <= 255; code++) {
            boolean right = code >= 33 && code <= 126;
            ObedientDice dice = new ObedientDice();
            Due.is("put(" + code + ")", dice.put(code), right ? 1 : BAD_VALUE);
            for (int place = 1; place < 8; place++) {
                long others = Texts.packed("1".repeat(8)) & ~(255L << 8 * place);
                int length = dice.count(11);
                Due.is("the code " + code + " at the place " + place, dice.put(others | (long) code << 8 * place),
                    !right ? BAD_VALUE : length > 52 ? TOO_MANY : length + 8);
                Due.is("length", dice.count(11), right && length <= 52 ? length + 8 : length);
            }
        }
    }

    @Sentence("8 bits that are 0 mean that there are no more characters, and everything above them has to be 0, too.")
    private static void bitsAboveTheEnd() {
        ObedientDice dice = new ObedientDice();
        for (int bit = 16; bit < 64; bit++) {
            Due.is("the bit " + bit, dice.put(49L | 1L << bit), BAD_VALUE);
        }
        for (int end = 1; end < 7; end++) {
            long characters = Texts.packed("1".repeat(8)) & ~(255L << 8 * end);
            Due.is("an end within, at " + end, dice.put(characters), BAD_VALUE);
        }
        Due.is("characters above an end alone", dice.put(Texts.packed("11") << 8), BAD_VALUE);
        Due.is("the highest bit alone", dice.put(Long.MIN_VALUE), BAD_VALUE);
        Due.is("all bits", dice.put(-1), BAD_VALUE);
        Due.is("the greatest number", dice.put(Long.MAX_VALUE), BAD_VALUE);
        Due.is("length", dice.count(11), 0);
        Due.is("an end at the top", dice.put(Texts.packed("1".repeat(7))), 7);
    }

    @Sentence("TOO_MANY if the pad would be longer than 60.")
    private static void tooLong() {
        for (int many = 1; many <= 8; many++) {
            long characters = Texts.packed("1".repeat(many));
            ObedientDice dice = new ObedientDice();
            Texts.put(dice, "1".repeat(61 - many));
            Due.is("put of " + many + " to 61", dice.put(characters), TOO_MANY);
            Due.is("length", dice.count(11), 61 - many);
            dice.wipe();
            Texts.put(dice, "1".repeat(60 - many));
            Due.is("put of " + many + " to 60", dice.put(characters), 60);
        }
    }

    @Sentence("its lowest 8 bits are the last character, the next 8 bits the one before, and so on")
    private static void orderOfCharacters() {
        ObedientDice dice = new ObedientDice();
        // "1,2;" and "3,4/5,6;" and "7,8"
        Due.is("put", dice.put(0x312c323bL), 4);
        Due.is("put", dice.put(0x332c342f352c363bL), 12);
        Due.is("put", dice.put(0x372c38L), 15);
        Due.is("fault", dice.fault(), NONE);
        dice.read();
        for (int i = 0; i < 8; i++) {
            Due.is("the points " + i, dice.cell(i / 4, i / 2 % 2, i % 2), 101 + i);
        }
    }

    @Sentence("Returns the length of the pad then")
    private static void lengthThen() {
        ObedientDice dice = new ObedientDice();
        Due.is("put", dice.put(49), 1);
        Due.is("put", dice.put(Texts.packed("12345678")), 9);
        Due.is("put", dice.put(Texts.packed("12")), 11);
        dice.wipe();
        Due.is("put", dice.put(126), 1);
    }

    // ---- promise 19: wipe

    @Sentence("Empties the pad, and returns the length that it had.")
    private static void wiped() {
        ObedientDice dice = new ObedientDice();
        Due.is("wipe of nothing", dice.wipe(), 0);
        Texts.put(dice, "1".repeat(60));
        Due.is("wipe of the longest", dice.wipe(), 60);
        Due.is("length", dice.count(11), 0);
        Due.is("fault", dice.fault(), 0);
        Due.is("wipe again", dice.wipe(), 0);
        Texts.put(dice, Games.PENNIES);
        Due.is("wipe of a game", dice.wipe(), Games.PENNIES.length());
        Due.is("read", dice.read(), ObedientDice.BAD_TEXT);
        Due.is("what is put then stands alone", Texts.put(dice, Games.FLAT_2), Games.FLAT_2.length());
        Due.is("read", dice.read(), 2);
    }

    // ---- promise 20: fault

    @Sentence("Returns the fault of the pad, NONE if there is none.")
    private static void faultOfThePad() {
        ObedientDice dice = new ObedientDice();
        Due.is("of nothing", dice.fault(), 0);
        Texts.put(dice, Games.FLAT_2.substring(0, 14));
        Due.is("a character too early", dice.fault(), 14);
        Due.is("again", dice.fault(), 14);
        dice.put('0');
        Due.is("of a game", dice.fault(), NONE);
        Due.is("again", dice.fault(), NONE);
        dice.put('0');
        Due.is("a character too late", dice.fault(), 15);
        dice.put('0');
        Due.is("two characters too late", dice.fault(), 15);
        dice.wipe();
        Texts.put(dice, Games.FLAT_3);
        Due.is("of a game of three columns", dice.fault(), NONE);
        dice.read();
        Due.is("read empties it", dice.fault(), 0);
    }

    @Sentence("Returns the fault of the pad")
    private static void faultOfALongPad() {
        for (int wrong = 0; wrong < 15; wrong++) {
            StringBuilder text = new StringBuilder(Games.FLAT_2);
            text.setCharAt(wrong, '!');
            Due.is("fault of " + text, Texts.fault(text.toString()), wrong);
            text.append("1".repeat(45));
            Due.is("fault of " + text, Texts.fault(text.toString()), wrong);
        }
    }

    public static void main(String[] args) throws ReflectiveOperationException {
        Due.sentences(PadTest.class);
    }
}
