import java.util.Arrays;

/** A ropewalk and net loft. The document's promises, told in ../shared/DOC.md, say what each call answers. */
public final class Ropeloft {
    public static final int NONE = -1;
    public static final int YARN = 0, STRAND = 1, ROPE = 2, CABLE = 3;
    public static final int S = 0, Z = 1;
    public static final int WHOLE = 0, USED = 1, BROKEN = 2, RETIRED = 3;

    private static final int FIBRES = 4;
    private static final int MOST_LINES = 60;
    private static final int LONGEST_LINE = 10000;
    private static final int MOST_TWIST = 30;
    private static final int MOST_FORCE = 1000000;
    private static final int MOST_RIGS = 12;
    private static final long MOST_HELD = 1000000000L;
    private static final int MOST_CARRIERS = 8;
    private static final int MOST_CROSSINGS = 60;
    private static final int MOST_NETS = 5;
    private static final int MOST_ROWS = 10;
    private static final int MOST_TWINES = 200;
    private static final int MOST_STITCHES = 10000;

    private final Fibre[] fibres = new Fibre[FIBRES];
    private final Line[] lines = new Line[MOST_LINES];
    private int lineCount;
    private final Rig[] rigs = new Rig[MOST_RIGS];
    private int rigCount;
    private final Braid plait = new Braid();
    private final Net[] nets = new Net[MOST_NETS];
    private int netCount;
    private final Mender mender = new Mender();

    public Ropeloft() {
        for (int i = 0; i < fibres.length; i++) {
            fibres[i] = new Fibre();
        }
    }

    // ---- lines

    public void fibre(int fibre, int strength, int length)
            throws IndexOutOfBoundsException, IllegalArgumentException {
        Fibre told = fibreAt(fibre);
        checkRange(strength, 1, 1000);
        checkRange(length, 1, 100);
        told.strength = strength;
        told.length = length;
    }

    public int spin(int fibre, int twist, int hand, int length)
            throws IndexOutOfBoundsException, IllegalArgumentException, IllegalStateException {
        Fibre spun = fibreAt(fibre);
        checkRange(twist, 1, MOST_TWIST);
        checkRange(hand, S, Z);
        checkRange(length, 1, LONGEST_LINE);
        checkRoomForLine();
        return keepLine(Line.spunOf(spun, twist, hand, length));
    }

    public int lay(int one, int two, int three, int twist)
            throws IndexOutOfBoundsException, IllegalArgumentException, IllegalStateException {
        Line a = lineAt(one);
        Line b = lineAt(two);
        Line c = lineAt(three);
        checkUnlike(one, two);
        checkUnlike(one, three);
        checkUnlike(two, three);
        checkRange(twist, 1, MOST_TWIST);
        checkState(a.isWhole() && b.isWhole() && c.isWhole());
        checkState(a.isOfKindAndHandOf(b) && a.isOfKindAndHandOf(c) && a.kind != CABLE);
        checkState(Line.laidLength(a, b, c, twist) > 0);
        checkRoomForLine();
        return keepLine(Line.laidOf(a, b, c, twist));
    }

    public int cut(int line, int length)
            throws IndexOutOfBoundsException, IllegalArgumentException, IllegalStateException {
        Line whole = lineAt(line);
        checkRange(length, 1, whole.length);
        checkState(whole.canBeWorked());
        checkRoomForLine();
        return keepLine(whole.cutOff(length));
    }

    public int order(int kind, int length) throws IllegalArgumentException, IllegalStateException {
        checkRange(kind, YARN, CABLE);
        checkRange(length, 1, LONGEST_LINE);
        checkRoomForLine();
        Line stock = shortestStock(kind, length);
        return stock == null ? NONE : keepLine(stock.cutOff(length));
    }

    public int splice(int one, int two, int tucks)
            throws IndexOutOfBoundsException, IllegalArgumentException, IllegalStateException {
        Line a = lineAt(one);
        Line b = lineAt(two);
        checkUnlike(one, two);
        checkRange(tucks, 2, 6);
        checkState(a.canBeWorked() && b.canBeWorked());
        checkState(a.isOfKindAndHandOf(b));
        checkState(Line.splicedLength(a, b, tucks) > 0);
        checkRoomForLine();
        return keepLine(Line.splicedOf(a, b, tucks));
    }

    public int load(int line, int force)
            throws IndexOutOfBoundsException, IllegalArgumentException, IllegalStateException {
        Line loaded = lineAt(line);
        checkRange(force, 1, MOST_FORCE);
        checkState(loaded.canBeWorked());
        loaded.carry(force);
        return loaded.state == BROKEN ? NONE : loaded.damage;
    }

    public int sun(int days) throws IllegalArgumentException {
        checkRange(days, 1, 1000);
        int retired = 0;
        for (Line line : lines) {
            if (line != null && line.isWhole()) {
                line.wear(days / 10);
                retired += line.isWhole() ? 0 : 1;
            }
        }
        return retired;
    }

    public int lineOf(int line, int what) throws IndexOutOfBoundsException, IllegalArgumentException {
        Line asked = lineAt(line);
        checkRange(what, 0, 9);
        return asked.told(what);
    }

    public int yarns(int line) throws IndexOutOfBoundsException {
        return yarnsIn(lineAt(line), YARN);
    }

    // ---- rigs, wraps

    public int rig(int line, int parts, int friction)
            throws IndexOutOfBoundsException, IllegalArgumentException, IllegalStateException {
        Line rove = lineAt(line);
        checkRange(parts, 1, 6);
        checkRange(friction, 0, 50);
        checkState(rove.canBeWorked());
        checkState(rigCount < rigs.length);
        return keepRig(new Rig(rove, parts, friction));
    }

    public int pull(int rig, int load) throws IndexOutOfBoundsException, IllegalArgumentException {
        Rig pulled = rigAt(rig);
        checkRange(load, 0, MOST_FORCE);
        return pulled.pullFor(load);
    }

    public boolean lift(int rig, int load) throws IndexOutOfBoundsException, IllegalArgumentException {
        Rig lifting = rigAt(rig);
        checkRange(load, 1, MOST_FORCE);
        boolean may = lifting.mayBear(load);
        if (may) {
            lifting.line.carry(lifting.pullFor(load));
        }
        return may;
    }

    public int series(int first, int second, int load)
            throws IndexOutOfBoundsException, IllegalArgumentException {
        Rig pulled = rigAt(first);
        Rig loaded = rigAt(second);
        checkUnlike(first, second);
        checkRange(load, 0, MOST_FORCE);
        int between = loaded.pullFor(load);
        if (!loaded.mayBear(load) || !pulled.mayBear(between)) {
            return NONE;
        }
        return pulled.pullFor(between);
    }

    public long holds(int wraps, int grip, int tail, int shakes) throws IllegalArgumentException {
        checkRange(wraps, 0, 20);
        checkRange(grip, 0, 100);
        checkRange(tail, 0, 1000);
        checkRange(shakes, 0, 50);
        long force = tail;
        for (int shake = 0; shake < shakes; shake++) {
            force -= force / 10;
        }
        for (int wrap = 0; wrap < wraps; wrap++) {
            force = force * (100 + grip) / 100;
        }
        return Math.min(force, MOST_HELD);
    }

    // ---- the braid

    public int braid(int carriers) throws IllegalArgumentException {
        checkRange(carriers, 3, MOST_CARRIERS);
        int before = plait.crossings;
        plait.begin(carriers);
        return before;
    }

    public int cross(int place, boolean isOver) throws IndexOutOfBoundsException, IllegalStateException {
        checkIndex(place, plait.carriers - 1);
        checkState(plait.crossings < MOST_CROSSINGS);
        plait.addCrossing(place, isOver);
        return plait.crossings;
    }

    public int carrier(int place) throws IndexOutOfBoundsException {
        checkIndex(place, plait.carriers);
        return plait.carrierAt(place);
    }

    public int orderOf() {
        return plait.orderByCycles();
    }

    public int orderAnew() {
        return plait.orderByBraiding();
    }

    public int over(int carrier, int other) throws IndexOutOfBoundsException, IllegalArgumentException {
        checkIndex(carrier, plait.carriers);
        checkIndex(other, plait.carriers);
        checkUnlike(carrier, other);
        return plait.timesOver(carrier, other);
    }

    // ---- nets

    public int net(int rows, int columns) throws IllegalArgumentException, IllegalStateException {
        checkRange(rows, 1, MOST_ROWS);
        checkRange(columns, 1, MOST_ROWS);
        checkState(netCount < nets.length);
        return keepNet(new Net(rows, columns));
    }

    public int tear(int net, int row, int column, boolean isRight)
            throws IndexOutOfBoundsException, IllegalStateException {
        Net asked = netAt(net);
        if (!asked.hasBarBelow(row, column, isRight)) {
            throw new IndexOutOfBoundsException("there is no such bar");
        }
        checkState(asked.tearBar(row, isRight ? column : column - 1));
        return asked.tornCount;
    }

    public int hole(int net, int fromRow, int fromColumn, int toRow, int toColumn)
            throws IndexOutOfBoundsException, IllegalArgumentException {
        Net asked = netAt(net);
        checkRange(fromRow, 0, MOST_ROWS);
        checkRange(fromColumn, 0, MOST_ROWS);
        checkRange(toRow, fromRow, MOST_ROWS);
        checkRange(toColumn, fromColumn, MOST_ROWS);
        int before = asked.tornCount;
        asked.tearWithin(fromRow, fromColumn, toRow, toColumn);
        return asked.tornCount - before;
    }

    public int twines(int net) throws IndexOutOfBoundsException {
        return mender.fewestTwines(netAt(net));
    }

    public int twinesAnew(int net) throws IndexOutOfBoundsException {
        return mender.layTwineAfterTwine(netAt(net));
    }

    public int mend(int net, int twines) throws IndexOutOfBoundsException, IllegalArgumentException {
        Net asked = netAt(net);
        checkRange(twines, 0, MOST_TWINES);
        return mender.fewestTwines(asked) <= twines ? asked.layAllAgain() : 0;
    }

    public int join(int a, int b, int k) throws IllegalArgumentException {
        checkRange(a, 1, MOST_STITCHES);
        checkRange(b, 1, MOST_STITCHES);
        checkRange(k, 0, b - 1);
        return quotient((k + 1) * a, b) - quotient(k * a, b);
    }

    public int depth(int meshes, int size, int hundredths) throws IllegalArgumentException {
        checkRange(meshes, 1, 1000);
        checkRange(size, 1, 1000);
        checkRange(hundredths, 1, 99);
        return meshes * size * rootOf(10000 - hundredths * hundredths) / 100;
    }

    // ---- what the calls have in common

    private static void checkRange(int value, int least, int most) {
        if (value < least || value > most) {
            throw new IllegalArgumentException("an argument is out of range");
        }
    }

    private static void checkUnlike(int one, int other) {
        if (one == other) {
            throw new IllegalArgumentException("two that must be unlike are the same");
        }
    }

    private static void checkIndex(int index, int bound) {
        if (index < 0 || index >= bound) {
            throw new IndexOutOfBoundsException("there is no such place or carrier");
        }
    }

    private static void checkState(boolean allows) {
        if (!allows) {
            throw new IllegalStateException("the state does not allow it");
        }
    }

    private void checkRoomForLine() {
        checkState(lineCount < lines.length);
    }

    private Fibre fibreAt(int number) {
        Fibre fibre = number >= 0 && number < fibres.length ? fibres[number] : null;
        if (fibre == null) {
            throw new IndexOutOfBoundsException("there is no such fibre");
        }
        return fibre;
    }

    private Line lineAt(int number) {
        Line line = number >= 0 && number < lines.length ? lines[number] : null;
        if (line == null) {
            throw new IndexOutOfBoundsException("there is no such line");
        }
        return line;
    }

    private Rig rigAt(int number) {
        Rig rig = number >= 0 && number < rigs.length ? rigs[number] : null;
        if (rig == null) {
            throw new IndexOutOfBoundsException("there is no such rig");
        }
        return rig;
    }

    private Net netAt(int number) {
        Net net = number >= 0 && number < nets.length ? nets[number] : null;
        if (net == null) {
            throw new IndexOutOfBoundsException("there is no such net");
        }
        return net;
    }

    private int keepLine(Line line) {
        int number = lineCount;
        if (number >= 0 && number < lines.length) {
            lines[number] = line;
            lineCount = number + 1;
        }
        return number;
    }

    private int keepRig(Rig rig) {
        int number = rigCount;
        if (number >= 0 && number < rigs.length) {
            rigs[number] = rig;
            rigCount = number + 1;
        }
        return number;
    }

    private int keepNet(Net net) {
        int number = netCount;
        if (number >= 0 && number < nets.length) {
            nets[number] = net;
            netCount = number + 1;
        }
        return number;
    }

    private Line shortestStock(int kind, int length) {
        Line shortest = null;
        for (Line line : lines) {
            if (line != null && line.kind == kind && line.canBeWorked() && line.length >= length
                    && (shortest == null || line.length < shortest.length)) {
                shortest = line;
            }
        }
        return shortest;
    }

    /** The depth grows by laid lines alone, each of a lower kind than the one ahead, so CABLE bounds it. */
    private static int yarnsIn(Line line, int depth) {
        Line made = line.throughCutsAndSplices();
        if (made.second == null || made.third == null || made.first == null || depth >= CABLE) {
            return 1;
        }
        return yarnsIn(made.first, depth + 1) + yarnsIn(made.second, depth + 1)
                + yarnsIn(made.third, depth + 1);
    }

    /** Rounded down; the document never divides by less than 1, which is looked at here all the same. */
    private static int quotient(int dividend, int divisor) {
        return divisor > 0 ? Math.floorDiv(dividend, divisor) : 0;
    }

    private static int rootOf(int square) {
        int root = 0;
        while (root < 100 && (root + 1) * (root + 1) <= square) {
            root++;
        }
        return root;
    }

    private static final class Fibre {
        private static final int BEST_TWIST = 12;

        private int strength = 100;
        private int length = 20;

        int yarnStrength(int twist) {
            int percent = Math.max(10, 100 - 3 * Math.abs(twist - BEST_TWIST));
            int twisted = strength * percent / 100;
            return Math.max(1, quotient(twisted * length, length + 5));
        }
    }

    private static final class Line {
        private static final int WORN_OUT = 300;
        private static final int MOST_DAMAGE = 1000;

        private final int kind;
        private final int hand;
        private int length;
        private int strength;
        private int weight;
        private int torque;
        private int damage;
        private int state = WHOLE;
        /** What it was cut of, the first one it was spliced of, or with second and third what it was laid of. */
        private Line first;
        private Line second;
        private Line third;

        Line(int kind, int hand, int length) {
            this.kind = kind;
            this.hand = hand;
            this.length = length;
        }

        static Line spunOf(Fibre fibre, int twist, int hand, int length) {
            Line yarn = new Line(YARN, hand, length);
            yarn.strength = fibre.yarnStrength(twist);
            yarn.weight = 1;
            yarn.torque = yarn.turned(twist);
            return yarn;
        }

        static int laidLength(Line a, Line b, Line c, int twist) {
            return Math.min(a.length, Math.min(b.length, c.length)) * (100 - twist) / 100;
        }

        static Line laidOf(Line a, Line b, Line c, int twist) {
            Line laid = new Line(a.kind + 1, a.hand == S ? Z : S, laidLength(a, b, c, twist));
            laid.strength = (a.bears() + b.bears() + c.bears()) * (100 - twist) / 100;
            laid.weight = a.weight + b.weight + c.weight;
            laid.torque = a.torque + b.torque + c.torque + laid.turned(twist * laid.weight);
            laid.first = a;
            laid.second = b;
            laid.third = c;
            a.state = USED;
            b.state = USED;
            c.state = USED;
            return laid;
        }

        static int splicedLength(Line a, Line b, int tucks) {
            return a.length + b.length - tucks;
        }

        static Line splicedOf(Line a, Line b, int tucks) {
            Line spliced = new Line(a.kind, a.hand, splicedLength(a, b, tucks));
            spliced.strength = Math.min(a.bears(), b.bears()) * (70 + 5 * tucks) / 100;
            spliced.weight = Math.max(a.weight, b.weight);
            spliced.torque = a.torque;
            spliced.first = a;
            a.state = USED;
            b.state = USED;
            return spliced;
        }

        Line cutOff(int piece) {
            Line cut = new Line(kind, hand, piece);
            cut.strength = strength;
            cut.weight = weight;
            cut.torque = torque;
            cut.damage = damage;
            cut.first = this;
            length -= piece;
            if (length <= 0) {
                state = USED;
            }
            return cut;
        }

        private int turned(int turns) {
            return hand == S ? -turns : turns;
        }

        boolean isWhole() {
            return state == WHOLE;
        }

        boolean isBalanced() {
            return Math.abs(torque) <= 2 * weight;
        }

        /** Whether it may be cut, spliced, loaded and rigged; to be laid asks for less. */
        boolean canBeWorked() {
            return isWhole() && (kind == YARN || isBalanced());
        }

        boolean isOfKindAndHandOf(Line other) {
            return kind == other.kind && hand == other.hand;
        }

        int bears() {
            return strength * (1000 - damage) / 1000;
        }

        int safeLoad() {
            return bears() / 5;
        }

        void carry(int force) {
            int most = bears();
            if (force > most) {
                state = BROKEN;
            } else {
                int strain = quotient(10 * force, most);
                wear(strain * strain);
            }
        }

        void wear(int more) {
            damage = Math.min(MOST_DAMAGE, damage + more);
            if (damage >= WORN_OUT) {
                state = RETIRED;
            }
        }

        Line throughCutsAndSplices() {
            Line line = this;
            for (int step = 0; step < MOST_LINES && line.second == null && line.first != null; step++) {
                line = line.first;
            }
            return line;
        }

        int told(int what) {
            switch (what) {
                case 0:
                    return kind;
                case 1:
                    return hand;
                case 2:
                    return length;
                case 3:
                    return strength;
                case 4:
                    return weight;
                case 5:
                    return torque;
                case 6:
                    return damage;
                case 7:
                    return state;
                case 8:
                    return bears();
                default:
                    return isBalanced() ? 1 : 0;
            }
        }
    }

    private static final class Rig {
        /** Twice this less 1 is above each load, so the halves of it reach every pull. */
        private static final int FIRST_STEP = 1 << 19;

        private final Line line;
        private final int parts;
        private final int friction;

        Rig(Line line, int parts, int friction) {
            this.line = line;
            this.parts = parts;
            this.friction = friction;
        }

        private long carriedBy(int pull) {
            long part = pull;
            long all = 0;
            for (int i = 0; i < parts; i++) {
                all += part;
                part = part * (100 - friction) / 100;
            }
            return all;
        }

        /** A larger pull never carries less, so the pull is lowered from the load, which the first part carries. */
        int pullFor(int load) {
            int pull = load;
            for (int step = FIRST_STEP; step > 0; step /= 2) {
                if (pull >= step && carriedBy(pull - step) >= load) {
                    pull -= step;
                }
            }
            return pull;
        }

        boolean mayBear(int load) {
            return line.isWhole() && pullFor(load) <= line.safeLoad();
        }
    }

    private static final class Braid {
        /** More than the order of any pattern of 8 carriers, which is at most 15. */
        private static final int MOST_ROUNDS = 1000;

        private int carriers;
        private int crossings;
        private final int[] carrierAt = new int[MOST_CARRIERS];
        private final int[] trial = new int[MOST_CARRIERS];
        private final int[] pattern = new int[MOST_CROSSINGS];
        private final int[] wentOver = new int[MOST_CARRIERS * MOST_CARRIERS];

        Braid() {
            begin(3);
        }

        void begin(int howMany) {
            carriers = howMany;
            crossings = 0;
            putHome(carrierAt);
            Arrays.fill(wentOver, 0);
        }

        private static void putHome(int[] places) {
            for (int place = 0; place < places.length; place++) {
                places[place] = place;
            }
        }

        private static boolean isHome(int[] places) {
            for (int place = 0; place < places.length; place++) {
                if (places[place] != place) {
                    return false;
                }
            }
            return true;
        }

        private static void change(int[] places, int left) {
            if (left >= 0 && left < places.length - 1) {
                int moved = places[left];
                places[left] = places[left + 1];
                places[left + 1] = moved;
            }
        }

        void addCrossing(int place, boolean isOver) {
            int gain = isOver ? 1 : -1;
            addOver(carrierAt(place), carrierAt(place + 1), gain);
            addOver(carrierAt(place + 1), carrierAt(place), -gain);
            change(carrierAt, place);
            if (crossings >= 0 && crossings < pattern.length) {
                pattern[crossings] = place;
                crossings++;
            }
        }

        private void addOver(int carrier, int other, int gain) {
            int pair = carrier * MOST_CARRIERS + other;
            if (pair >= 0 && pair < wentOver.length) {
                wentOver[pair] += gain;
            }
        }

        int carrierAt(int place) {
            return place >= 0 && place < carrierAt.length ? carrierAt[place] : NONE;
        }

        int timesOver(int carrier, int other) {
            int pair = carrier * MOST_CARRIERS + other;
            return pair >= 0 && pair < wentOver.length ? wentOver[pair] : 0;
        }

        int orderByCycles() {
            int order = 1;
            for (int place = 0; place < carriers; place++) {
                order = leastMultiple(order, cycleThrough(place));
            }
            return order;
        }

        private int cycleThrough(int start) {
            int length = 1;
            int place = carrierAt(start);
            while (length < MOST_CARRIERS && place != start) {
                place = carrierAt(place);
                length++;
            }
            return length;
        }

        private static int leastMultiple(int one, int other) {
            int times = 1;
            while (times < other && one * times % other != 0) {
                times++;
            }
            return one * times;
        }

        int orderByBraiding() {
            putHome(trial);
            int rounds = 0;
            do {
                braidOnce();
                rounds++;
            } while (rounds < MOST_ROUNDS && !isHome(trial));
            return rounds;
        }

        private void braidOnce() {
            for (int i = 0; i < crossings && i < pattern.length; i++) {
                change(trial, pattern[i]);
            }
        }
    }

    /**
     * Each square between four places holds just one bar: to the right where the row and the column of its upper
     * left corner are even together, otherwise to the left. So a bar is told by that corner.
     */
    private static final class Net {
        private final int rows;
        private final int columns;
        private final boolean[] torn = new boolean[MOST_ROWS * MOST_ROWS];
        private int tornCount;

        Net(int rows, int columns) {
            this.rows = rows;
            this.columns = columns;
        }

        private boolean hasKnot(int row, int column) {
            return row >= 0 && row <= rows && column >= 0 && column <= columns && (row + column) % 2 == 0;
        }

        boolean hasBarBelow(int row, int column, boolean isRight) {
            return hasKnot(row, column) && hasKnot(row + 1, isRight ? column + 1 : column - 1);
        }

        boolean isTorn(int bar) {
            return bar >= 0 && bar < torn.length && torn[bar];
        }

        /** Whether the bar was not torn before. */
        boolean tearBar(int row, int column) {
            int bar = row * MOST_ROWS + column;
            if (bar < 0 || bar >= torn.length || torn[bar]) {
                return false;
            }
            torn[bar] = true;
            tornCount++;
            return true;
        }

        void tearWithin(int fromRow, int fromColumn, int toRow, int toColumn) {
            int lastRow = Math.min(toRow, rows);
            int lastColumn = Math.min(toColumn, columns);
            for (int row = fromRow; row < lastRow; row++) {
                for (int column = fromColumn; column < lastColumn; column++) {
                    tearBar(row, column);
                }
            }
        }

        int layAllAgain() {
            int laid = tornCount;
            for (int bar = 0; bar < torn.length; bar++) {
                torn[bar] = false;
            }
            tornCount = 0;
            return laid;
        }
    }

    /** Finds the fewest twines for a net in two ways, with rows of its own that every net uses again. */
    private static final class Mender {
        private static final int PLACES_IN_ROW = MOST_ROWS + 1;
        private static final int PLACES = PLACES_IN_ROW * PLACES_IN_ROW;
        /** As a row has an odd number of places, row and column are even together where the place's number is even. */
        private static final int NEXT_KNOT = 2;
        private static final int BARS = MOST_ROWS * MOST_ROWS;
        private static final int WAYS = 4;

        private final boolean[] isLeft = new boolean[BARS];
        private final boolean[] isReached = new boolean[PLACES];
        private final int[] queue = new int[PLACES];

        private void begin(Net net) {
            for (int bar = 0; bar < isLeft.length; bar++) {
                isLeft[bar] = net.isTorn(bar);
            }
            for (int knot = 0; knot < isReached.length; knot++) {
                isReached[knot] = false;
            }
        }

        /** The bar from a knot on one of four ways: the first two go up, the others down; even ones go left. */
        private static int barOn(int knot, int way) {
            int row = knot / PLACES_IN_ROW - (way < 2 ? 1 : 0);
            int column = knot % PLACES_IN_ROW - (way % 2 == 0 ? 1 : 0);
            boolean isInside = row >= 0 && row < MOST_ROWS && column >= 0 && column < MOST_ROWS;
            return isInside ? row * MOST_ROWS + column : NONE;
        }

        private static int knotOn(int knot, int way) {
            return knot + (way < 2 ? -PLACES_IN_ROW : PLACES_IN_ROW) + (way % 2 == 0 ? -1 : 1);
        }

        private boolean isBarLeft(int bar) {
            return bar >= 0 && bar < isLeft.length && isLeft[bar];
        }

        private boolean isReachedKnot(int knot) {
            return knot >= 0 && knot < isReached.length && isReached[knot];
        }

        private void reach(int knot) {
            if (knot >= 0 && knot < isReached.length) {
                isReached[knot] = true;
            }
        }

        private int barsLeftAt(int knot) {
            int left = 0;
            for (int way = 0; way < WAYS; way++) {
                left += isBarLeft(barOn(knot, way)) ? 1 : 0;
            }
            return left;
        }

        /** A twine has two ends, and at a knot with an odd number of bars one has to end. */
        int fewestTwines(Net net) {
            begin(net);
            int twines = 0;
            for (int knot = 0; knot < PLACES; knot += NEXT_KNOT) {
                if (!isReachedKnot(knot) && barsLeftAt(knot) > 0) {
                    twines += Math.max(1, oddKnotsJoinedTo(knot) / 2);
                }
            }
            return twines;
        }

        private int oddKnotsJoinedTo(int start) {
            int odd = 0;
            int queued = queueKnot(start, 0);
            for (int next = 0; next < queued && next < queue.length; next++) {
                int knot = queue[next];
                odd += barsLeftAt(knot) % 2;
                for (int way = 0; way < WAYS; way++) {
                    if (isBarLeft(barOn(knot, way)) && !isReachedKnot(knotOn(knot, way))) {
                        queued = queueKnot(knotOn(knot, way), queued);
                    }
                }
            }
            return odd;
        }

        private int queueKnot(int knot, int queued) {
            reach(knot);
            if (queued < 0 || queued >= queue.length) {
                return queued;
            }
            queue[queued] = knot;
            return queued + 1;
        }

        /** First a twine from each odd knot; then what is left are rings, which a twine that touches them takes in. */
        int layTwineAfterTwine(Net net) {
            begin(net);
            int twines = 0;
            for (int knot = 0; knot < PLACES; knot += NEXT_KNOT) {
                if (barsLeftAt(knot) % 2 == 1) {
                    layFrom(knot);
                    twines++;
                }
            }
            layRingsTouched();
            for (int knot = 0; knot < PLACES; knot += NEXT_KNOT) {
                if (barsLeftAt(knot) > 0) {
                    layFrom(knot);
                    layRingsTouched();
                    twines++;
                }
            }
            return twines;
        }

        private void layRingsTouched() {
            boolean isLaid = true;
            for (int round = 0; round < BARS && isLaid; round++) {
                isLaid = layOneRoundOfRings();
            }
        }

        private boolean layOneRoundOfRings() {
            boolean isLaid = false;
            for (int knot = 0; knot < PLACES; knot += NEXT_KNOT) {
                if (isReachedKnot(knot) && barsLeftAt(knot) > 0) {
                    layFrom(knot);
                    isLaid = true;
                }
            }
            return isLaid;
        }

        private void layFrom(int start) {
            int knot = start;
            reach(knot);
            int way = wayLeftAt(knot);
            for (int laid = 0; laid < BARS && way != NONE; laid++) {
                layBar(barOn(knot, way));
                knot = knotOn(knot, way);
                reach(knot);
                way = wayLeftAt(knot);
            }
        }

        private int wayLeftAt(int knot) {
            for (int way = 0; way < WAYS; way++) {
                if (isBarLeft(barOn(knot, way))) {
                    return way;
                }
            }
            return NONE;
        }

        private void layBar(int bar) {
            if (bar >= 0 && bar < isLeft.length) {
                isLeft[bar] = false;
            }
        }
    }
}
