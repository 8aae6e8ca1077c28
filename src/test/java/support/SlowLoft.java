package support;

import java.util.ArrayList;
import java.util.Arrays;
import java.util.List;

/** The document told once more, slowly and in another way, to compare long runs of calls with. */
public final class SlowLoft {
    private static final int KIND = 0, HAND = 1, LENGTH = 2, STRENGTH = 3, WEIGHT = 4, TORQUE = 5, DAMAGE = 6;
    private static final int STATE = 7, YARNS = 8;

    private final int[][] fibres = {{100, 20}, {100, 20}, {100, 20}, {100, 20}};
    private final List<int[]> lines = new ArrayList<>();
    private final List<int[]> rigs = new ArrayList<>();
    private int carriers = 3;
    private final List<int[]> crossings = new ArrayList<>();
    private final List<boolean[][]> nets = new ArrayList<>();

    private static void index(boolean isThere) {
        if (!isThere) {
            throw new IndexOutOfBoundsException();
        }
    }

    private static void argument(boolean isFine) {
        if (!isFine) {
            throw new IllegalArgumentException();
        }
    }

    private static void state(boolean isFine) {
        if (!isFine) {
            throw new IllegalStateException();
        }
    }

    private static boolean in(int value, int least, int most) {
        return least <= value && value <= most;
    }

    private static int add(List<int[]> list, int... fields) {
        list.add(fields);
        return list.size() - 1;
    }

    private static int bears(int[] line) {
        return (int) Math.floor(line[STRENGTH] * (1000.0 - line[DAMAGE]) / 1000.0 + 1e-9);
    }

    private static boolean isBalanced(int[] line) {
        return line[TORQUE] <= 2 * line[WEIGHT] && -line[TORQUE] <= 2 * line[WEIGHT];
    }

    private static boolean works(int[] line) {
        return line[STATE] == 0 && (line[KIND] == 0 || isBalanced(line));
    }

    private static void wear(int[] line, int more) {
        line[DAMAGE] = Math.min(1000, line[DAMAGE] + more);
        if (line[DAMAGE] > 299) {
            line[STATE] = 3;
        }
    }

    private static void strain(int[] line, int force) {
        if (force > bears(line)) {
            line[STATE] = 2;
            return;
        }
        int tenths = 0;
        while ((tenths + 1) * bears(line) <= 10 * force) {
            tenths++;
        }
        wear(line, tenths * tenths);
    }

    public void fibre(int fibre, int strength, int length) {
        index(in(fibre, 0, 3));
        argument(in(strength, 1, 1000) && in(length, 1, 100));
        fibres[fibre] = new int[] {strength, length};
    }

    public int spin(int fibre, int twist, int hand, int length) {
        index(in(fibre, 0, 3));
        argument(in(twist, 1, 30) && in(hand, 0, 1) && in(length, 1, 10000));
        state(lines.size() < 60);
        int away = twist > 12 ? twist - 12 : 12 - twist;
        int strength = fibres[fibre][0] * (100 - 3 * away) / 100;
        strength = strength * fibres[fibre][1] / (fibres[fibre][1] + 5);
        return add(lines, 0, hand, length, strength < 1 ? 1 : strength, 1, hand == 0 ? -twist : twist, 0, 0, 1);
    }

    public int lay(int one, int two, int three, int twist) {
        int[] numbers = {one, two, three};
        for (int number : numbers) {
            index(in(number, 0, lines.size() - 1));
        }
        argument(one != two && two != three && three != one && in(twist, 1, 30));
        int[] laid = {lines.get(one)[KIND] + 1, 1 - lines.get(one)[HAND], MOST, 0, 0, 0, 0, 0, 0};
        for (int number : numbers) {
            int[] part = lines.get(number);
            state(part[STATE] == 0 && part[KIND] == laid[KIND] - 1 && part[HAND] == 1 - laid[HAND]);
            state(part[KIND] < 3);
            laid[LENGTH] = Math.min(laid[LENGTH], part[LENGTH]);
            laid[STRENGTH] += bears(part);
            laid[WEIGHT] += part[WEIGHT];
            laid[TORQUE] += part[TORQUE];
            laid[YARNS] += part[YARNS];
        }
        laid[LENGTH] = laid[LENGTH] * (100 - twist) / 100;
        laid[STRENGTH] = laid[STRENGTH] * (100 - twist) / 100;
        laid[TORQUE] += (laid[HAND] == 0 ? -1 : 1) * twist * laid[WEIGHT];
        state(laid[LENGTH] != 0 && lines.size() < 60);
        for (int number : numbers) {
            lines.get(number)[STATE] = 1;
        }
        return add(lines, laid);
    }

    private static final int MOST = Integer.MAX_VALUE;

    public int cut(int line, int length) {
        index(in(line, 0, lines.size() - 1));
        int[] old = lines.get(line);
        argument(in(length, 1, old[LENGTH]));
        state(works(old) && lines.size() < 60);
        int[] piece = old.clone();
        piece[LENGTH] = length;
        old[LENGTH] -= length;
        if (old[LENGTH] == 0) {
            old[STATE] = 1;
        }
        return add(lines, piece);
    }

    public int order(int kind, int length) {
        argument(in(kind, 0, 3) && in(length, 1, 10000));
        state(lines.size() < 60);
        int best = -1;
        for (int i = lines.size() - 1; i >= 0; i--) {
            int[] line = lines.get(i);
            if (line[KIND] == kind && works(line) && line[LENGTH] >= length
                    && (best < 0 || line[LENGTH] <= lines.get(best)[LENGTH])) {
                best = i;
            }
        }
        return best < 0 ? -1 : cut(best, length);
    }

    public int splice(int one, int two, int tucks) {
        index(in(one, 0, lines.size() - 1) && in(two, 0, lines.size() - 1));
        argument(one != two && in(tucks, 2, 6));
        int[] a = lines.get(one);
        int[] b = lines.get(two);
        state(works(a) && works(b) && a[KIND] == b[KIND] && a[HAND] == b[HAND]);
        int length = a[LENGTH] + b[LENGTH] - tucks;
        state(length > 0 && lines.size() < 60);
        int strength = (bears(a) < bears(b) ? bears(a) : bears(b)) * (70 + tucks * 5) / 100;
        a[STATE] = 1;
        b[STATE] = 1;
        return add(lines, a[KIND], a[HAND], length, strength, Math.max(a[WEIGHT], b[WEIGHT]), a[TORQUE], 0, 0,
                a[YARNS]);
    }

    public int load(int line, int force) {
        index(in(line, 0, lines.size() - 1));
        argument(in(force, 1, 1000000));
        int[] loaded = lines.get(line);
        state(works(loaded));
        strain(loaded, force);
        return loaded[STATE] == 2 ? -1 : loaded[DAMAGE];
    }

    public int sun(int days) {
        argument(in(days, 1, 1000));
        int retired = 0;
        for (int[] line : lines) {
            if (line[STATE] == 0) {
                wear(line, days / 10);
                retired += line[STATE] == 3 ? 1 : 0;
            }
        }
        return retired;
    }

    public int lineOf(int line, int what) {
        index(in(line, 0, lines.size() - 1));
        argument(in(what, 0, 9));
        int[] asked = lines.get(line);
        return what < 8 ? asked[what] : what == 8 ? bears(asked) : isBalanced(asked) ? 1 : 0;
    }

    public int yarns(int line) {
        index(in(line, 0, lines.size() - 1));
        return lines.get(line)[YARNS];
    }

    public int rig(int line, int parts, int friction) {
        index(in(line, 0, lines.size() - 1));
        argument(in(parts, 1, 6) && in(friction, 0, 50));
        state(works(lines.get(line)) && rigs.size() < 12);
        return add(rigs, line, parts, friction);
    }

    public int pull(int rig, int load) {
        index(in(rig, 0, rigs.size() - 1));
        argument(in(load, 0, 1000000));
        int[] asked = rigs.get(rig);
        int pull = load / 7;
        while (true) {
            int carried = 0;
            int part = pull;
            for (int i = 0; i < asked[1]; i++) {
                carried += part;
                part = part * (100 - asked[2]) / 100;
            }
            if (carried >= load) {
                return pull;
            }
            pull++;
        }
    }

    private boolean mayLift(int rig, int load) {
        int[] line = lines.get(rigs.get(rig)[0]);
        return line[STATE] == 0 && pull(rig, load) <= bears(line) / 5;
    }

    public boolean lift(int rig, int load) {
        index(in(rig, 0, rigs.size() - 1));
        argument(in(load, 1, 1000000));
        if (!mayLift(rig, load)) {
            return false;
        }
        strain(lines.get(rigs.get(rig)[0]), pull(rig, load));
        return true;
    }

    public int series(int first, int second, int load) {
        index(in(first, 0, rigs.size() - 1) && in(second, 0, rigs.size() - 1));
        argument(first != second && in(load, 0, 1000000));
        int between = pull(second, load);
        return mayLift(second, load) && mayLift(first, between) ? pull(first, between) : -1;
    }

    public long holds(int wraps, int grip, int tail, int shakes) {
        argument(in(wraps, 0, 20) && in(grip, 0, 100) && in(tail, 0, 1000) && in(shakes, 0, 50));
        int left = tail;
        while (shakes-- > 0) {
            left -= left / 10;
        }
        long held = left;
        while (wraps-- > 0) {
            held += held * grip / 100;
        }
        return held > 1000000000L ? 1000000000L : held;
    }

    public int braid(int howMany) {
        argument(in(howMany, 3, 8));
        int before = crossings.size();
        carriers = howMany;
        crossings.clear();
        return before;
    }

    public int cross(int place, boolean isOver) {
        index(in(place, 0, carriers - 2));
        state(crossings.size() < 60);
        return add(crossings, place, isOver ? 1 : 0) + 1;
    }

    private int[] braided(int times) {
        int[] at = new int[carriers];
        for (int i = 0; i < carriers; i++) {
            at[i] = i;
        }
        for (int time = 0; time < times; time++) {
            for (int[] crossing : crossings) {
                int left = at[crossing[0]];
                at[crossing[0]] = at[crossing[0] + 1];
                at[crossing[0] + 1] = left;
            }
        }
        return at;
    }

    public int carrier(int place) {
        index(in(place, 0, carriers - 1));
        return braided(1)[place];
    }

    public int orderOf() {
        int times = 1;
        while (!Arrays.equals(braided(times), braided(0))) {
            times++;
        }
        return times;
    }

    public int over(int carrier, int other) {
        index(in(carrier, 0, carriers - 1) && in(other, 0, carriers - 1));
        argument(carrier != other);
        int[] at = braided(0);
        int times = 0;
        for (int[] crossing : crossings) {
            int left = at[crossing[0]];
            int right = at[crossing[0] + 1];
            int sign = crossing[1] == 1 ? 1 : -1;
            times += left == carrier && right == other ? sign : left == other && right == carrier ? -sign : 0;
            at[crossing[0]] = right;
            at[crossing[0] + 1] = left;
        }
        return times;
    }

    /** A net is told by its rows and columns of knots; what is torn, by the upper knot and the way. */
    public int net(int rows, int columns) {
        argument(in(rows, 1, 10) && in(columns, 1, 10));
        state(nets.size() < 5);
        nets.add(new boolean[rows + 1][(columns + 1) * 2]);
        return nets.size() - 1;
    }

    private static boolean isKnot(boolean[][] net, int row, int column) {
        return in(row, 0, net.length - 1) && in(column, 0, net[0].length / 2 - 1) && (row + column) % 2 == 0;
    }

    private static int torn(boolean[][] net) {
        int torn = 0;
        for (boolean[] row : net) {
            for (boolean bar : row) {
                torn += bar ? 1 : 0;
            }
        }
        return torn;
    }

    public int tear(int net, int row, int column, boolean isRight) {
        index(in(net, 0, nets.size() - 1));
        boolean[][] asked = nets.get(net);
        index(isKnot(asked, row, column));
        index(isKnot(asked, row + 1, column + (isRight ? 1 : -1)));
        int bar = column * 2 + (isRight ? 1 : 0);
        state(!asked[row][bar]);
        asked[row][bar] = true;
        return torn(asked);
    }

    public int hole(int net, int fromRow, int fromColumn, int toRow, int toColumn) {
        index(in(net, 0, nets.size() - 1));
        argument(in(fromRow, 0, 10) && in(fromColumn, 0, 10) && in(toRow, fromRow, 10) && in(toColumn, fromColumn, 10));
        boolean[][] asked = nets.get(net);
        int before = torn(asked);
        for (int row = fromRow; row < toRow; row++) {
            for (int column = fromColumn; column <= toColumn; column++) {
                for (int side = 0; side < 2; side++) {
                    int other = column + side * 2 - 1;
                    if (isKnot(asked, row, column) && isKnot(asked, row + 1, other)
                            && in(other, fromColumn, toColumn)) {
                        asked[row][column * 2 + side] = true;
                    }
                }
            }
        }
        return torn(asked) - before;
    }

    private static int root(int[] parent, int knot) {
        return parent[knot] == knot ? knot : root(parent, parent[knot]);
    }

    public int twines(int net) {
        index(in(net, 0, nets.size() - 1));
        boolean[][] asked = nets.get(net);
        int[] parent = new int[400];
        int[] bars = new int[400];
        for (int i = 0; i < 400; i++) {
            parent[i] = i;
        }
        for (int row = 0; row < asked.length; row++) {
            for (int bar = 0; bar < asked[0].length; bar++) {
                if (asked[row][bar]) {
                    int upper = row * 20 + bar / 2;
                    int lower = upper + 20 + (bar % 2 == 1 ? 1 : -1);
                    bars[upper]++;
                    bars[lower]++;
                    parent[root(parent, upper)] = root(parent, lower);
                }
            }
        }
        int[] odd = new int[400];
        int[] any = new int[400];
        for (int i = 0; i < 400; i++) {
            odd[root(parent, i)] += bars[i] % 2;
            any[root(parent, i)] += bars[i];
        }
        int twines = 0;
        for (int i = 0; i < 400; i++) {
            twines += any[i] == 0 ? 0 : odd[i] == 0 ? 1 : odd[i] / 2;
        }
        return twines;
    }

    public int mend(int net, int twines) {
        index(in(net, 0, nets.size() - 1));
        argument(in(twines, 0, 200));
        if (twines(net) > twines) {
            return 0;
        }
        int torn = torn(nets.get(net));
        for (boolean[] row : nets.get(net)) {
            Arrays.fill(row, false);
        }
        return torn;
    }

    public int join(int a, int b, int k) {
        argument(in(a, 1, 10000) && in(b, 1, 10000) && in(k, 0, b - 1));
        return (int) ((k + 1L) * a / b - (long) k * a / b);
    }

    public int depth(int meshes, int size, int hundredths) {
        argument(in(meshes, 1, 1000) && in(size, 1, 1000) && in(hundredths, 1, 99));
        int root = 100;
        while (root * root > 10000 - hundredths * hundredths) {
            root--;
        }
        return (int) ((long) meshes * size * root / 100);
    }
}
