import java.util.Arrays;
import java.util.Random;
import support.Checks;

/** The fewest twines by trying: every way to lay, by every split of the torn bars of small nets. */
public final class TrailsTest {
    private static final Checks CHECKS = new Checks();

    private final int rows;
    private final int columns;
    private final int bars;
    private final int[] upper;
    private final int[] lower;

    private TrailsTest(int rows, int columns) {
        this.rows = rows;
        this.columns = columns;
        bars = rows * columns;
        upper = new int[bars];
        lower = new int[bars];
        for (int bar = 0; bar < bars; bar++) {
            int row = bar / columns;
            int column = bar % columns;
            int shift = (row + column) % 2;
            upper[bar] = row * (columns + 1) + column + shift;
            lower[bar] = (row + 1) * (columns + 1) + column + 1 - shift;
        }
    }

    public static void main(String[] args) {
        int[][] sizes = {{1, 1}, {1, 5}, {5, 1}, {2, 2}, {2, 3}, {3, 3}, {2, 5}, {3, 4}, {4, 3}};
        for (int[] size : sizes) {
            CHECKS.begin("net " + size[0] + " " + size[1]);
            new TrailsTest(size[0], size[1]).compare();
        }
        CHECKS.end();
    }

    private void compare() {
        int[] fewest = fewestOfAll();
        Random random = new Random(rows * 100 + columns);
        for (int i = 0; i < fewest.length; i++) {
            int torn = fewest.length <= 512 ? i : random.nextInt(fewest.length);
            Ropeloft loft = new Ropeloft();
            loft.net(rows, columns);
            for (int bar = 0; bar < bars; bar++) {
                if ((torn >> bar & 1) != 0) {
                    int column = upper[bar] % (columns + 1);
                    loft.tear(0, bar / columns, column, column == bar % columns);
                }
            }
            CHECKS.due("twines of the bars " + Integer.toBinaryString(torn), loft.twines(0), fewest[torn]);
            CHECKS.due("twinesAnew of them", loft.twinesAnew(0), fewest[torn]);
            CHECKS.due("one twine too few", loft.mend(0, Math.max(0, fewest[torn] - 1)), 0);
            CHECKS.due("as many twines as it needs", loft.mend(0, fewest[torn]), Integer.bitCount(torn));
        }
    }

    /** For each set of bars: the fewest parts, each of which one twine can be laid along. */
    private int[] fewestOfAll() {
        boolean[] isTrail = trails();
        int[] fewest = new int[1 << bars];
        Arrays.fill(fewest, bars + 1);
        fewest[0] = 0;
        for (int set = 1; set < fewest.length; set++) {
            for (int part = set; part > 0; part = (part - 1) & set) {
                if (isTrail[part]) {
                    fewest[set] = Math.min(fewest[set], fewest[set ^ part] + 1);
                }
            }
        }
        return fewest;
    }

    private boolean[] trails() {
        int knots = (rows + 1) * (columns + 1);
        boolean[][] endsAt = new boolean[1 << bars][knots];
        boolean[] isTrail = new boolean[1 << bars];
        for (int set = 0; set < endsAt.length; set++) {
            for (int knot = 0; knot < knots; knot++) {
                if (set == 0 || endsAt[set][knot]) {
                    isTrail[set] = true;
                    goOn(endsAt, set, knot);
                }
            }
        }
        return isTrail;
    }

    private void goOn(boolean[][] endsAt, int set, int knot) {
        for (int bar = 0; bar < bars; bar++) {
            if ((set >> bar & 1) == 0 && (upper[bar] == knot || lower[bar] == knot)) {
                endsAt[set | 1 << bar][upper[bar] + lower[bar] - knot] = true;
            }
        }
    }
}
