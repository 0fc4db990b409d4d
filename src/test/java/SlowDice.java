import java.math.BigInteger;
import java.util.ArrayDeque;
import java.util.ArrayList;
import java.util.Arrays;
import java.util.Deque;
import java.util.List;
import java.util.regex.Matcher;
import java.util.regex.Pattern;

/**
 * The document once more, in another way: the extreme dice are searched among all sets of sides that could meet in a
 * corner, and the fault of a text is asked of regular expressions.
 */
final class SlowDice {
    static final int NO_SUCH = -1, BAD_VALUE = -2, BAD_TEXT = -3, TOO_MANY = -4, NOT_POSSIBLE = -5, NONE = -6;
    private static final Pattern[] GAMES = {gameOf(2), gameOf(3)};

    private static final class Kept {
        int columns = 2;
        long x = 1;
        int[][][] points = new int[2][2][3];
        int[][] weights = {{1, 1, 0}, {1, 1, 0}};
        List<int[]> thrown = new ArrayList<>();

        Kept copy() {
            Kept other = new Kept();
            other.columns = columns;
            other.x = x;
            for (int player = 0; player < 2; player++) {
                for (int row = 0; row < 2; row++) {
                    other.points[player][row] = points[player][row].clone();
                }
            }
            other.weights = new int[][] {weights[0].clone(), weights[1].clone()};
            other.thrown = new ArrayList<>(thrown);
            return other;
        }
    }

    private Kept now = new Kept();
    private final Deque<Kept> history = new ArrayDeque<>();
    private final Kept[] slots = new Kept[2];
    private String pad = "";
    private List<long[]> extremes = null;

    private static Pattern gameOf(int columns) {
        String row = "-?[0-9],-?[0-9]" + ";-?[0-9],-?[0-9]".repeat(columns - 1);
        return Pattern.compile(row + "/" + row);
    }

    private void change() {
        history.addLast(now.copy());
        if (history.size() > 6) {
            history.removeFirst();
        }
        extremes = null;
    }

    private boolean noCell(int row, int column) {
        return row < 0 || row > 1 || column < 0 || column >= now.columns;
    }

    int begin(int columns) {
        if (columns != 2 && columns != 3) {
            return BAD_VALUE;
        }
        change();
        int before = now.columns;
        long x = now.x;
        now = new Kept();
        now.x = x;
        now.columns = columns;
        now.weights = columns == 2 ? new int[][] {{1, 1, 0}, {1, 1, 0}} : new int[][] {{1, 1, 1}, {1, 1, 1}};
        return before;
    }

    int points(int player, int row, int column, int points) {
        if (player < 0 || player > 1 || noCell(row, column)) {
            return NO_SUCH;
        }
        if (Math.abs((long) points) > 9) {
            return BAD_VALUE;
        }
        change();
        int before = now.points[player][row][column];
        now.points[player][row][column] = points;
        return before + 100;
    }

    int weigh(int row, int column, int weight) {
        if (noCell(row, column)) {
            return NO_SUCH;
        }
        if (weight < 0 || weight > 999) {
            return BAD_VALUE;
        }
        int before = now.weights[row][column];
        if (weight == 0 && sum() == before) {
            return NOT_POSSIBLE;
        }
        change();
        now.weights[row][column] = weight;
        return before;
    }

    int take(int number) {
        if (number < 0 || number >= extremes().size()) {
            return NO_SUCH;
        }
        long[] chosen = extremes().get(number);
        if (Arrays.stream(chosen).max().getAsLong() > 999) {
            return TOO_MANY;
        }
        change();
        for (int i = 0; i < chosen.length; i++) {
            now.weights[i / now.columns][i % now.columns] = (int) chosen[i];
        }
        return sum();
    }

    int mix(int number, int times, int other) {
        if (number < 0 || number >= extremes().size()) {
            return NO_SUCH;
        }
        if (times < 0 || times > 9 || other < 0 || other > 9 || times + other == 0) {
            return BAD_VALUE;
        }
        long[] mixed = extremes().get(number).clone();
        for (int i = 0; i < mixed.length; i++) {
            mixed[i] = mixed[i] * other + times * now.weights[i / now.columns][i % now.columns];
            if (mixed[i] > 999) {
                return TOO_MANY;
            }
        }
        change();
        for (int i = 0; i < mixed.length; i++) {
            now.weights[i / now.columns][i % now.columns] = (int) mixed[i];
        }
        return sum();
    }

    int roll(int many) {
        if (many < 1 || many > 100) {
            return BAD_VALUE;
        }
        if (now.thrown.size() + many > 1000) {
            return TOO_MANY;
        }
        change();
        List<int[]> sides = new ArrayList<>();
        for (int row = 0; row < 2; row++) {
            for (int column = 0; column < now.columns; column++) {
                for (int k = 0; k < now.weights[row][column]; k++) {
                    sides.add(new int[] {row, column});
                }
            }
        }
        for (int i = 0; i < many; i++) {
            now.x = BigInteger.valueOf(now.x).multiply(BigInteger.valueOf(1103515245)).add(BigInteger.valueOf(12345))
                .mod(BigInteger.valueOf(2147483648L)).longValueExact();
            now.thrown.add(sides.get((int) (now.x / 65536 % sides.size())));
        }
        int[] last = now.thrown.get(now.thrown.size() - 1);
        return now.columns * last[0] + last[1];
    }

    int forget(int seed) {
        if (seed < 0) {
            return BAD_VALUE;
        }
        change();
        int before = now.thrown.size();
        now.thrown.clear();
        now.x = seed;
        return before;
    }

    int read() {
        if (fault() != NONE) {
            return BAD_TEXT;
        }
        String[] rows = pad.split("/");
        int columns = rows[0].split(";").length;
        begin(columns);
        for (int row = 0; row < 2; row++) {
            for (int column = 0; column < columns; column++) {
                String[] numbers = rows[row].split(";")[column].split(",");
                now.points[0][row][column] = Integer.parseInt(numbers[0]);
                now.points[1][row][column] = Integer.parseInt(numbers[1]);
            }
        }
        pad = "";
        return columns;
    }

    int cell(int row, int column, int what) {
        if (noCell(row, column)) {
            return NO_SUCH;
        }
        int number = now.columns * row + column;
        switch (what) {
            case 0: return now.points[0][row][column] + 100;
            case 1: return now.points[1][row][column] + 100;
            case 2: return now.weights[row][column];
            case 3: return (int) now.thrown.stream().filter(t -> t[0] == row && t[1] == column).count();
            case 4: return sure() >> number & 1;
            case 5: return extremes().stream().anyMatch(e -> e[number] > 0) ? 1 : 0;
            default: return BAD_VALUE;
        }
    }

    private List<int[]> inequalities() {
        List<int[]> all = new ArrayList<>();
        for (int player = 0; player < 2; player++) {
            int moves = player == 0 ? 2 : now.columns;
            for (int told = 0; told < moves; told++) {
                for (int other = 0; other < moves; other++) {
                    if (told != other) {
                        all.add(new int[] {player, told, other});
                    }
                }
            }
        }
        return all;
    }

    /** What the player would gain by the other move in a cell that tells it the told one. */
    private int gain(int[] inequality, int row, int column) {
        int[][] points = now.points[inequality[0]];
        if (inequality[0] == 0) {
            return row == inequality[1] ? points[inequality[2]][column] - points[row][column] : 0;
        }
        return column == inequality[1] ? points[row][inequality[2]] - points[row][column] : 0;
    }

    private int slack(int[] inequality) {
        int slack = 0;
        for (int row = 0; row < 2; row++) {
            for (int column = 0; column < now.columns; column++) {
                slack -= now.weights[row][column] * gain(inequality, row, column);
            }
        }
        return slack;
    }

    int inequality(int number, int what) {
        if (number < 0 || number >= inequalities().size()) {
            return NO_SUCH;
        }
        int[] inequality = inequalities().get(number);
        switch (what) {
            case 0: case 1: case 2: return inequality[what];
            case 3: return slack(inequality) + 1000000;
            case 4: return now.thrown.stream().mapToInt(t -> gain(inequality, t[0], t[1])).sum() + 1000000;
            default: return BAD_VALUE;
        }
    }

    private int sum() {
        return Arrays.stream(now.weights).flatMapToInt(Arrays::stream).sum();
    }

    int count(int what) {
        int broken = (int) inequalities().stream().filter(i -> slack(i) < 0).count();
        switch (what) {
            case 0: return now.columns;
            case 1: return now.columns * 2;
            case 2: return inequalities().size();
            case 3: return sum();
            case 4: return broken == 0 ? 1 : 0;
            case 5: return broken;
            case 6: return extremes().size();
            case 7: return now.thrown.size();
            case 8: case 9: return now.thrown.stream().mapToInt(t -> now.points[what - 8][t[0]][t[1]]).sum() + 100000;
            case 10: return (int) now.x;
            case 11: return pad.length();
            case 12: return history.size();
            default: return BAD_VALUE;
        }
    }

    private long points(long[] weights, int player) {
        long points = 0;
        for (int i = 0; i < weights.length; i++) {
            for (int p = 0; p < 2; p++) {
                if (player == 2 || player == p) {
                    points += weights[i] * now.points[p][i / now.columns][i % now.columns];
                }
            }
        }
        return points;
    }

    private static int rounded(long points, long sum) {
        BigInteger[] parts = BigInteger.valueOf(points * 1000).divideAndRemainder(BigInteger.valueOf(sum));
        return parts[0].intValueExact() - (parts[1].signum() < 0 ? 1 : 0) + 100000;
    }

    int worth(int player) {
        if (player < 0 || player > 2) {
            return BAD_VALUE;
        }
        long[] weights = new long[2 * now.columns];
        for (int i = 0; i < weights.length; i++) {
            weights[i] = now.weights[i / now.columns][i % now.columns];
        }
        return rounded(points(weights, player), sum());
    }

    int extreme(int number, int what) {
        if (number < 0 || number >= extremes().size()) {
            return NO_SUCH;
        }
        long[] chosen = extremes().get(number);
        if (what < 0 || what > 8 || what < 6 && what >= chosen.length) {
            return BAD_VALUE;
        }
        if (what < 6) {
            return (int) chosen[what];
        }
        if (what == 6) {
            return (int) Arrays.stream(chosen).sum();
        }
        int set = 0;
        if (what == 7) {
            for (int i = 0; i < chosen.length; i++) {
                set |= chosen[i] > 0 ? 1 << i : 0;
            }
        } else {
            List<long[]> sides = sides();
            for (int i = chosen.length; i < sides.size(); i++) {
                set |= side(sides.get(i), chosen).signum() == 0 ? 1 << i - chosen.length : 0;
            }
        }
        return set;
    }

    int best(int player, int what) {
        if (player < 0 || player > 2 || what < 0 || what > 1) {
            return BAD_VALUE;
        }
        int leader = 0;
        for (int i = 1; i < extremes().size(); i++) {
            long[] one = extremes().get(i);
            long[] most = extremes().get(leader);
            BigInteger left = BigInteger.valueOf(points(one, player)).multiply(BigInteger.valueOf(Arrays.stream(most).sum()));
            BigInteger right = BigInteger.valueOf(points(most, player)).multiply(BigInteger.valueOf(Arrays.stream(one).sum()));
            if (left.compareTo(right) > 0) {
                leader = i;
            }
        }
        long[] most = extremes().get(leader);
        return what == 0 ? leader : rounded(points(most, player), Arrays.stream(most).sum());
    }

    int neverTold(int player) {
        if (player < 0 || player > 1) {
            return NO_SUCH;
        }
        int set = player == 0 ? 3 : (1 << now.columns) - 1;
        for (long[] one : extremes()) {
            for (int i = 0; i < one.length; i++) {
                if (one[i] > 0) {
                    set &= ~(1 << (player == 0 ? i / now.columns : i % now.columns));
                }
            }
        }
        return set;
    }

    int sure() {
        int set = 0;
        for (int row = 0; row < 2; row++) {
            for (int column = 0; column < now.columns; column++) {
                int most0 = Math.max(now.points[0][0][column], now.points[0][1][column]);
                int most1 = Arrays.stream(now.points[1][row], 0, now.columns).max().getAsInt();
                if (now.points[0][row][column] == most0 && now.points[1][row][column] == most1) {
                    set |= 1 << now.columns * row + column;
                }
            }
        }
        return set;
    }

    int put(long characters) {
        String more = "";
        boolean over = false;
        for (int i = 0; i < 8; i++) {
            int code = (int) (characters >> 8 * i & 255);
            if (code == 0) {
                over = true;
            } else if (over || code < 33 || code > 126) {
                return BAD_VALUE;
            } else {
                more = (char) code + more;
            }
        }
        if (more.isEmpty()) {
            return BAD_VALUE;
        }
        if (pad.length() + more.length() > 60) {
            return TOO_MANY;
        }
        pad += more;
        return pad.length();
    }

    int wipe() {
        int before = pad.length();
        pad = "";
        return before;
    }

    int fault() {
        for (int end = 1; end <= pad.length(); end++) {
            boolean stands = false;
            for (Pattern game : GAMES) {
                Matcher matcher = game.matcher(pad.substring(0, end));
                stands |= matcher.matches() || matcher.hitEnd();
            }
            if (!stands) {
                return end - 1;
            }
        }
        return GAMES[0].matcher(pad).matches() || GAMES[1].matcher(pad).matches() ? NONE : pad.length();
    }

    int undo() {
        if (history.isEmpty()) {
            return NOT_POSSIBLE;
        }
        now = history.removeLast();
        extremes = null;
        return history.size();
    }

    int save(int slot) {
        if (slot < 0 || slot > 1) {
            return BAD_VALUE;
        }
        slots[slot] = now.copy();
        return now.thrown.size();
    }

    int restore(int slot) {
        if (slot < 0 || slot > 1) {
            return BAD_VALUE;
        }
        if (slots[slot] == null) {
            return NOT_POSSIBLE;
        }
        change();
        now = slots[slot].copy();
        return now.thrown.size();
    }

    // ---- the extreme dice, by a search through all sets of sides

    /** The left sides that have to be 0 or more: the weights of the cells first, then the inequalities. */
    private List<long[]> sides() {
        int cells = 2 * now.columns;
        List<long[]> sides = new ArrayList<>();
        for (int i = 0; i < cells; i++) {
            long[] side = new long[cells];
            side[i] = 1;
            sides.add(side);
        }
        for (int[] inequality : inequalities()) {
            long[] side = new long[cells];
            for (int i = 0; i < cells; i++) {
                side[i] = -gain(inequality, i / now.columns, i % now.columns);
            }
            sides.add(side);
        }
        return sides;
    }

    private static BigInteger side(long[] side, long[] weights) {
        BigInteger sum = BigInteger.ZERO;
        for (int i = 0; i < side.length; i++) {
            sum = sum.add(BigInteger.valueOf(side[i]).multiply(BigInteger.valueOf(weights[i])));
        }
        return sum;
    }

    private List<long[]> extremes() {
        if (extremes == null) {
            extremes = new ArrayList<>();
            List<long[]> sides = sides();
            search(sides, 0, new ArrayList<>());
            extremes.sort(SlowDice::compareOdds);
        }
        return extremes;
    }

    private static int compareOdds(long[] one, long[] another) {
        BigInteger oneSum = BigInteger.valueOf(Arrays.stream(one).sum());
        BigInteger anotherSum = BigInteger.valueOf(Arrays.stream(another).sum());
        for (int i = 0; i < one.length; i++) {
            int order = BigInteger.valueOf(another[i]).multiply(oneSum).compareTo(BigInteger.valueOf(one[i]).multiply(anotherSum));
            if (order != 0) {
                return order;
            }
        }
        return 0;
    }

    /** Chooses sides that don't depend on one another, kept in echelon form, until just one ray is left of them. */
    private void search(List<long[]> sides, int from, List<long[]> echelon) {
        int cells = 2 * now.columns;
        if (echelon.size() == cells - 1) {
            addIfObeyed(sides, rayOf(echelon, cells));
            return;
        }
        for (int i = from; i < sides.size(); i++) {
            long[] rest = reduced(sides.get(i), echelon);
            if (rest != null) {
                echelon.add(rest);
                search(sides, i + 1, echelon);
                echelon.remove(echelon.size() - 1);
            }
        }
    }

    private static int lead(long[] row) {
        int lead = 0;
        while (row[lead] == 0) {
            lead++;
        }
        return lead;
    }

    private static long[] reduced(long[] row, List<long[]> echelon) {
        long[] rest = row.clone();
        for (long[] other : echelon) {
            int lead = lead(other);
            long factor = rest[lead];
            if (factor != 0) {
                for (int i = 0; i < rest.length; i++) {
                    rest[i] = rest[i] * other[lead] - other[i] * factor;
                }
                divideByCommon(rest);
            }
        }
        return divideByCommon(rest) ? rest : null;
    }

    private static boolean divideByCommon(long[] row) {
        long common = 0;
        for (long x : row) {
            common = gcd(common, Math.abs(x));
        }
        for (int i = 0; i < row.length && common > 1; i++) {
            row[i] /= common;
        }
        return common > 0;
    }

    private static long gcd(long a, long b) {
        return b == 0 ? a : gcd(b, a % b);
    }

    /** The one direction in which all rows are 0, found from the last row back to the first. */
    private static long[] rayOf(List<long[]> echelon, int cells) {
        boolean[] leading = new boolean[cells];
        for (long[] row : echelon) {
            leading[lead(row)] = true;
        }
        int free = 0;
        while (leading[free]) {
            free++;
        }
        BigInteger[] numerators = new BigInteger[cells];
        BigInteger denominator = BigInteger.ONE;
        Arrays.fill(numerators, BigInteger.ZERO);
        numerators[free] = BigInteger.ONE;
        for (int r = echelon.size() - 1; r >= 0; r--) {
            long[] row = echelon.get(r);
            int lead = lead(row);
            BigInteger rest = BigInteger.ZERO;
            for (int i = 0; i < cells; i++) {
                if (i != lead) {
                    rest = rest.subtract(numerators[i].multiply(BigInteger.valueOf(row[i])));
                }
            }
            BigInteger by = BigInteger.valueOf(row[lead]);
            for (int i = 0; i < cells; i++) {
                numerators[i] = numerators[i].multiply(by);
            }
            numerators[lead] = rest;
            denominator = denominator.multiply(by);
        }
        BigInteger common = BigInteger.ZERO;
        int sign = 0;
        for (BigInteger n : numerators) {
            common = common.gcd(n);
            sign += n.signum();
        }
        long[] ray = new long[cells];
        for (int i = 0; i < cells; i++) {
            ray[i] = numerators[i].divide(common).longValueExact() * (sign < 0 ? -1 : 1);
        }
        return ray;
    }

    private void addIfObeyed(List<long[]> sides, long[] ray) {
        for (long[] side : sides) {
            if (side(side, ray).signum() < 0) {
                return;
            }
        }
        for (long[] known : extremes) {
            if (Arrays.equals(known, ray)) {
                return;
            }
        }
        extremes.add(ray);
    }
}
