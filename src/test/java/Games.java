/** Games that the tests share, as texts, and what is looked at again and again. */
final class Games {
    /** Five extreme dice: 2 1 1 0, 4 2 2 1, 0 1 0 0, 0 2 2 1, 0 0 1 0. */
    static final String CHICKEN = "6,6;2,7/7,2;0,0";
    /** One extreme dice: 1 1 1 1. */
    static final String PENNIES = "1,-1;-1,1/-1,1;1,-1";
    /** Five extreme dice: 1 0 0 0, 5 0 3 5, 3 5 0 3, 15 25 9 15, 0 0 0 1. */
    static final String BATTLE = "5,3;0,0/0,0;3,5";
    /** Only the cell 3 is told. */
    static final String PRISON = "3,3;0,5/5,0;1,1";
    /** Eleven extreme dice; 0, 1 and 4 of them have weights above 999. */
    static final String STEEP = "-4,8;5,6;-9,0/6,-8;-6,-1;4,0";
    /** Eleven extreme dice; 2 of them: 198 20 999 90 110 0. */
    static final String UP_TO_999 = "3,4;-2,-7;4,9/-8,3;7,5;6,-8";
    /** Eleven extreme dice; 5 of them: 0 100 90 0 1000 63. */
    static final String UP_TO_1000 = "6,8;-7,-9;7,1/-3,-7;2,4;-3,3";
    /** Each player gets the same everywhere. */
    static final String FLAT_2 = "0,0;0,0/0,0;0,0";
    static final String FLAT_3 = "0,0;0,0;0,0/0,0;0,0;0,0";

    static final int[] BELOW_0 = {-1, -2, -7, Integer.MIN_VALUE};

    private Games() {
    }

    static ObedientDice with(int... weights) {
        ObedientDice dice = new ObedientDice();
        dice.begin(weights.length / 2);
        weigh(dice, weights);
        return dice;
    }

    /** The first one with a weight goes first, so that not all are 0 in between. */
    static void weigh(ObedientDice dice, int... weights) {
        int columns = weights.length / 2;
        int first = 0;
        while (weights[first] == 0) {
            first++;
        }
        for (int i = 0; i < weights.length; i++) {
            int cell = (first + i) % weights.length;
            dice.weigh(cell / columns, cell % columns, weights[cell]);
        }
    }

    static void allPoints(ObedientDice dice, int player, int points) {
        for (int cell = 0; cell < dice.count(1); cell++) {
            dice.points(player, cell / dice.count(0), cell % dice.count(0), points);
        }
    }

    static int weight(ObedientDice dice, int cell) {
        return dice.cell(cell / dice.count(0), cell % dice.count(0), 2);
    }

    static int falls(ObedientDice dice, int cell) {
        return dice.cell(cell / dice.count(0), cell % dice.count(0), 3);
    }

    static void weightsAre(ObedientDice dice, int... weights) {
        Due.is("count(1)", dice.count(1), weights.length);
        for (int cell = 0; cell < weights.length; cell++) {
            Due.is("the weight of the cell " + cell, weight(dice, cell), weights[cell]);
        }
    }

    static void fallsAre(ObedientDice dice, int... falls) {
        for (int cell = 0; cell < falls.length; cell++) {
            Due.is("the falls of the cell " + cell, falls(dice, cell), falls[cell]);
        }
    }

    static void extremeIs(ObedientDice dice, int number, int... weights) {
        for (int cell = 0; cell < weights.length; cell++) {
            Due.is("extreme(" + number + ", " + cell + ")", dice.extreme(number, cell), weights[cell]);
        }
    }

    /** So many throws, in calls of at most 100. */
    static void rollTo(ObedientDice dice, int throwsThen) {
        for (int missing = throwsThen - dice.count(7); missing > 0; missing = throwsThen - dice.count(7)) {
            Due.is("roll", dice.roll(Math.min(100, missing)) >= 0 ? 1 : 0, 1);
        }
    }
}
