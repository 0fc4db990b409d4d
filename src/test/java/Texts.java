/** Puts whole texts into a pad, eight characters at a time. */
final class Texts {
    private Texts() {
    }

    static long packed(String text) {
        long characters = 0;
        for (char sign : text.toCharArray()) {
            characters = characters << 8 | sign;
        }
        return characters;
    }

    static int put(ObedientDice dice, String text) {
        int answer = 0;
        for (int i = 0; i < text.length(); i += 8) {
            answer = dice.put(packed(text.substring(i, Math.min(text.length(), i + 8))));
        }
        return answer;
    }

    static ObedientDice game(String text) {
        ObedientDice dice = new ObedientDice();
        put(dice, text);
        Due.is("read() of " + text, dice.read(), text.split("/")[0].split(";").length);
        return dice;
    }

    static int fault(String text) {
        ObedientDice dice = new ObedientDice();
        put(dice, text);
        return dice.fault();
    }
}
