import support.Checks;

/** For each promise of the document ordinary inputs, the edges that it names, and wrong inputs. */
public final class PromisesTest {
    private static final Checks CHECKS = new Checks();
    private static final int LEAST = Integer.MIN_VALUE;
    private static final int MOST = Integer.MAX_VALUE;

    private static final int KIND = 0, HAND = 1, LENGTH = 2, STRENGTH = 3, WEIGHT = 4, TORQUE = 5, DAMAGE = 6;
    private static final int STATE = 7, BEARS = 8, BALANCED = 9;

    public static void main(String[] args) {
        newObject();
        fibre();
        spin();
        lay();
        layRefuses();
        cut();
        order();
        splice();
        spliceRefuses();
        load();
        sun();
        lineOf();
        yarns();
        rig();
        pull();
        lift();
        series();
        holds();
        braid();
        cross();
        carrier();
        orders();
        over();
        net();
        tear();
        hole();
        twines();
        mend();
        join();
        depth();
        thrownCallsChangeNothing();
        CHECKS.end();
    }

    // ---- what the tests have in common

    private static void due(String what, long got, long want) {
        CHECKS.due(what, got, want);
    }

    private static void index(String what, Checks.Call call) {
        CHECKS.dueThrow(what, Checks.INDEX, call);
    }

    private static void argument(String what, Checks.Call call) {
        CHECKS.dueThrow(what, Checks.ARGUMENT, call);
    }

    private static void state(String what, Checks.Call call) {
        CHECKS.dueThrow(what, Checks.STATE, call);
    }

    private static long tell(Ropeloft x, int fibre, int strength, int length) {
        x.fibre(fibre, strength, length);
        return 0;
    }

    private static long bit(boolean answer) {
        return answer ? 1 : 0;
    }

    private static int yarn(Ropeloft x, int hand, int length) {
        return x.spin(0, 12, hand, length);
    }

    /** A strand of three yarns of twist 12: with the twists 10 to 14 it is balanced. */
    private static int strand(Ropeloft x, int hand, int length, int twist) {
        int yarnHand = 1 - hand;
        return x.lay(yarn(x, yarnHand, length), yarn(x, yarnHand, length), yarn(x, yarnHand, length), twist);
    }

    private static int rope(Ropeloft x, int hand, int length, int strandTwist, int twist) {
        int strandHand = 1 - hand;
        int one = strand(x, strandHand, length, strandTwist);
        int two = strand(x, strandHand, length, strandTwist);
        return x.lay(one, two, strand(x, strandHand, length, strandTwist), twist);
    }

    private static void fillLines(Ropeloft x, int upTo) {
        for (int i = 0; i < 60; i++) {
            if (x.spin(3, 12, Ropeloft.Z, 7) == upTo - 1) {
                return;
            }
        }
    }

    private static void line(String what, Ropeloft x, int line, int... told) {
        for (int i = 0; i < told.length; i++) {
            due(what + ", what " + i, x.lineOf(line, i), told[i]);
        }
    }

    // ---- lines

    private static void newObject() {
        CHECKS.begin("promise 1");
        Ropeloft x = new Ropeloft();
        index("no line", () -> x.lineOf(0, 0));
        index("no rig", () -> x.pull(0, 0));
        index("no net", () -> x.twines(0));
        due("order", x.orderOf(), 1);
        for (int place = 0; place < 3; place++) {
            due("carrier", x.carrier(place), place);
        }
        index("no fourth carrier", () -> x.carrier(3));
        due("no crossings", x.braid(3), 0);
        due("first line", yarn(x, Ropeloft.S, 5), 0);
        due("first rig", x.rig(0, 1, 0), 0);
        due("first net", x.net(1, 1), 0);
        due("fibre 3 at first: 100 and 20", x.lineOf(x.spin(3, 12, Ropeloft.S, 5), STRENGTH), 80);
    }

    private static void fibre() {
        CHECKS.begin("promise 2");
        Ropeloft x = new Ropeloft();
        yarn(x, Ropeloft.S, 5);
        x.fibre(0, 1000, 100);
        due("strength of a fibre", x.lineOf(yarn(x, Ropeloft.S, 5), STRENGTH), 952);
        due("the yarn ahead of it stays", x.lineOf(0, STRENGTH), 80);
        x.fibre(3, 1, 1);
        due("weakest fibre", x.lineOf(x.spin(3, 12, Ropeloft.S, 5), STRENGTH), 1);
        due("the others stay", x.lineOf(x.spin(1, 12, Ropeloft.S, 5), STRENGTH), 80);
        index("fibre -1", () -> tell(x, -1, 5, 5));
        index("fibre 4", () -> tell(x, 4, 5, 5));
        index("fibre 4, strength 0", () -> tell(x, 4, 0, 0));
        index("fibre MAX", () -> tell(x, MOST, 5, 5));
        argument("strength 0", () -> tell(x, 1, 0, 5));
        argument("strength 1001", () -> tell(x, 1, 1001, 5));
        argument("length 0", () -> tell(x, 1, 5, 0));
        argument("length 101", () -> tell(x, 1, 5, 101));
        argument("strength MIN", () -> tell(x, 1, LEAST, 5));
        due("wrong calls tell nothing", x.lineOf(x.spin(1, 12, Ropeloft.S, 5), STRENGTH), 80);
    }

    private static void spin() {
        CHECKS.begin("promise 3");
        Ropeloft x = new Ropeloft();
        due("first yarn", x.spin(0, 1, Ropeloft.S, 1), 0);
        line("twist 1, S", x, 0, Ropeloft.YARN, Ropeloft.S, 1, 53, 1, -1, 0, Ropeloft.WHOLE, 53, 1);
        due("second yarn", x.spin(0, 30, Ropeloft.Z, 10000), 1);
        line("twist 30, Z", x, 1, Ropeloft.YARN, Ropeloft.Z, 10000, 36, 1, 30, 0, Ropeloft.WHOLE, 36, 0);
        x.spin(0, 11, Ropeloft.Z, 2);
        due("one below the best twist", x.lineOf(2, STRENGTH), 77);
        x.spin(0, 13, Ropeloft.Z, 2);
        due("one above the best twist", x.lineOf(3, STRENGTH), 77);
        x.fibre(1, 33, 7);
        x.spin(1, 15, Ropeloft.Z, 2);
        due("both divisions round down", x.lineOf(4, STRENGTH), 17);
        x.fibre(1, 1, 100);
        x.spin(1, 30, Ropeloft.Z, 2);
        due("1 at least", x.lineOf(5, STRENGTH), 1);
        index("fibre -1, twist 0", () -> x.spin(-1, 0, 0, 0));
        index("fibre 4", () -> x.spin(4, 12, 0, 5));
        argument("twist 0", () -> x.spin(0, 0, 0, 5));
        argument("twist 31", () -> x.spin(0, 31, 0, 5));
        argument("hand -1", () -> x.spin(0, 12, -1, 5));
        argument("hand 2", () -> x.spin(0, 12, 2, 5));
        argument("length 0", () -> x.spin(0, 12, 0, 0));
        argument("length 10001", () -> x.spin(0, 12, 0, 10001));
        index("wrong calls spin nothing", () -> x.lineOf(6, 0));
        fillLines(x, 60);
        due("60 lines", x.lineOf(59, LENGTH), 7);
        state("a 61st line", () -> x.spin(0, 12, 0, 5));
        index("fibre first", () -> x.spin(4, 12, 0, 5));
        argument("twist first", () -> x.spin(0, 31, 0, 5));
    }

    private static void lay() {
        CHECKS.begin("promise 4");
        Ropeloft x = new Ropeloft();
        x.spin(0, 12, Ropeloft.Z, 99);
        x.spin(0, 15, Ropeloft.Z, 70);
        x.spin(0, 1, Ropeloft.Z, 81);
        x.load(0, 80);
        due("laid", x.lay(2, 0, 1, 15), 3);
        line("of the strengths by now, 72, 72 and 53", x, 3, Ropeloft.STRAND, Ropeloft.S, 59, 167, 3,
                28 - 45, 0, Ropeloft.WHOLE, 167, 0);
        for (int i = 0; i < 3; i++) {
            due("used", x.lineOf(i, STATE), Ropeloft.USED);
        }
        due("a used one keeps its length", x.lineOf(1, LENGTH), 70);
        due("twist 30 of length 2", x.lineOf(strand(x, Ropeloft.Z, 2, 30), LENGTH), 1);
        Ropeloft y = new Ropeloft();
        due("nine yarns, three strands, not balanced", rope(y, Ropeloft.S, 1000, 30, 30), 12);
        line("a rope of unbalanced strands", y, 12, Ropeloft.ROPE, Ropeloft.S, 490, 352, 9,
                3 * (90 - 36) - 270, 0, Ropeloft.WHOLE, 352, 0);
        Ropeloft z = new Ropeloft();
        int one = rope(z, Ropeloft.S, 100, 14, 4);
        int two = rope(z, Ropeloft.S, 100, 14, 4);
        due("a cable", z.lay(one, two, rope(z, Ropeloft.S, 100, 14, 4), 4), 39);
        line("a balanced cable", z, 39, Ropeloft.CABLE, Ropeloft.Z, 78, 1707, 27, 54, 0, Ropeloft.WHOLE, 1707, 1);
    }

    private static void layRefuses() {
        Ropeloft x = new Ropeloft();
        for (int i = 0; i < 4; i++) {
            yarn(x, Ropeloft.S, 10);
        }
        index("no such first", () -> x.lay(-1, 0, 1, 5));
        index("no such second", () -> x.lay(0, 4, 1, 5));
        index("no such third, the others the same", () -> x.lay(0, 0, MOST, 99));
        argument("one is two", () -> x.lay(0, 0, 1, 5));
        argument("one is three", () -> x.lay(0, 1, 0, 5));
        argument("two is three", () -> x.lay(0, 1, 1, 5));
        argument("twist 0", () -> x.lay(0, 1, 2, 0));
        argument("twist 31", () -> x.lay(0, 1, 2, 31));
        yarn(x, Ropeloft.Z, 10);
        state("one of another hand", () -> x.lay(4, 1, 2, 5));
        state("two of another hand", () -> x.lay(0, 4, 2, 5));
        state("three of another hand", () -> x.lay(0, 1, 4, 5));
        yarn(x, Ropeloft.S, 1);
        state("length 0", () -> x.lay(0, 1, 5, 1));
        x.lay(0, 1, 2, 5);
        state("one of another kind and hand", () -> x.lay(6, 4, 3, 5));
        state("used", () -> x.lay(0, 3, 5, 5));
        argument("used ones, twist 31", () -> x.lay(0, 3, 5, 31));
        x.load(3, 81);
        yarn(x, Ropeloft.S, 10);
        yarn(x, Ropeloft.S, 10);
        state("broken", () -> x.lay(7, 8, 3, 5));
        Ropeloft y = new Ropeloft();
        strand(y, Ropeloft.Z, 50, 12);
        strand(y, Ropeloft.Z, 50, 12);
        yarn(y, Ropeloft.Z, 50);
        state("strands and a yarn of the same hand", () -> y.lay(3, 7, 8, 5));
        Ropeloft z = new Ropeloft();
        int one = rope(z, Ropeloft.Z, 1000, 14, 4);
        int two = rope(z, Ropeloft.Z, 1000, 14, 4);
        int cable = z.lay(one, two, rope(z, Ropeloft.Z, 1000, 14, 4), 4);
        due("cable", z.lineOf(cable, KIND), Ropeloft.CABLE);
        due("a piece", z.cut(cable, 10), 40);
        due("another piece", z.cut(cable, 10), 41);
        state("cables are not laid", () -> z.lay(cable, 40, 41, 5));
        fillLines(z, 60);
        state("60 lines", () -> z.lay(50, 51, 52, 5));
        due("three that are whole", z.lineOf(50, STATE), Ropeloft.WHOLE);
    }

    private static void cut() {
        CHECKS.begin("promise 5");
        Ropeloft x = new Ropeloft();
        strand(x, Ropeloft.Z, 100, 10);
        x.load(3, 100);
        due("cut", x.cut(3, 30), 4);
        line("what was cut off", x, 4, Ropeloft.STRAND, Ropeloft.Z, 30, 216, 3, -6, 16, Ropeloft.WHOLE, 212, 1);
        line("what is left", x, 3, Ropeloft.STRAND, Ropeloft.Z, 60, 216, 3, -6, 16, Ropeloft.WHOLE, 212, 1);
        argument("more than is left", () -> x.cut(3, 61));
        argument("none", () -> x.cut(3, 0));
        argument("below none", () -> x.cut(3, LEAST));
        due("all but 1", x.cut(3, 59), 5);
        due("leaves it whole", x.lineOf(3, STATE), Ropeloft.WHOLE);
        due("all of it", x.cut(3, 1), 6);
        due("nothing is left", x.lineOf(3, LENGTH), 0);
        due("so it is used", x.lineOf(3, STATE), Ropeloft.USED);
        due("the piece is whole", x.lineOf(5, STATE), Ropeloft.WHOLE);
        argument("nothing to cut", () -> x.cut(3, 1));
        state("a laid yarn", () -> x.cut(0, 100));
        argument("a laid yarn, too long", () -> x.cut(0, 101));
        index("no such line", () -> x.cut(7, 0));
        index("line -1", () -> x.cut(-1, 1));
        due("a yarn of much twist can be cut", x.cut(x.spin(0, 30, Ropeloft.S, 9), 4), 8);
        int loose = strand(x, Ropeloft.Z, 100, 9);
        state("a strand that is not balanced", () -> x.cut(loose, 1));
        argument("too long for it", () -> x.cut(loose, 92));
        x.load(4, 1000);
        state("broken", () -> x.cut(4, 1));
        fillLines(x, 60);
        state("60 lines", () -> x.cut(59, 1));
        argument("60 lines, too long", () -> x.cut(59, 8));
        due("the line stays", x.lineOf(59, LENGTH), 7);
    }

    private static void order() {
        CHECKS.begin("promise 6");
        Ropeloft x = new Ropeloft();
        due("no line at all", x.order(Ropeloft.YARN, 1), Ropeloft.NONE);
        yarn(x, Ropeloft.S, 60);
        yarn(x, Ropeloft.S, 40);
        yarn(x, Ropeloft.Z, 40);
        yarn(x, Ropeloft.S, 30);
        due("the shortest that is long enough, the lowest", x.order(Ropeloft.YARN, 35), 4);
        due("of line 1", x.lineOf(1, LENGTH), 5);
        due("not of line 2", x.lineOf(2, LENGTH), 40);
        due("the piece", x.lineOf(4, LENGTH), 35);
        due("one with just the length", x.order(Ropeloft.YARN, 60), 5);
        due("is used then", x.lineOf(0, STATE), Ropeloft.USED);
        due("too long for all but the piece", x.order(Ropeloft.YARN, 60), 6);
        due("too long for all", x.order(Ropeloft.YARN, 61), Ropeloft.NONE);
        due("no strand", x.order(Ropeloft.STRAND, 1), Ropeloft.NONE);
        due("no cable, the longest", x.order(Ropeloft.CABLE, 10000), Ropeloft.NONE);
        due("not a laid, cut up one", x.lineOf(5, STATE), Ropeloft.USED);
        argument("kind -1", () -> x.order(-1, 1));
        argument("kind 4", () -> x.order(4, 1));
        argument("length 0", () -> x.order(0, 0));
        argument("length 10001", () -> x.order(0, 10001));
        Ropeloft y = new Ropeloft();
        int loose = strand(y, Ropeloft.Z, 50, 15);
        int tight = strand(y, Ropeloft.Z, 60, 14);
        due("the shorter one is not balanced", y.order(Ropeloft.STRAND, 20), 8);
        due("which stays", y.lineOf(loose, LENGTH), 42);
        due("the other was cut", y.lineOf(tight, LENGTH), 31);
        y.load(8, 1000);
        due("broken and unbalanced ones are no stock", y.order(Ropeloft.STRAND, 32), Ropeloft.NONE);
        due("laid yarns are no stock", y.order(Ropeloft.YARN, 1), Ropeloft.NONE);
        fillLines(y, 60);
        state("60 lines", () -> y.order(Ropeloft.YARN, 1));
        state("60 lines, and no such line", () -> y.order(Ropeloft.CABLE, 1));
        argument("60 lines, wrong length", () -> y.order(Ropeloft.CABLE, 0));
    }

    private static void splice() {
        CHECKS.begin("promise 7");
        Ropeloft x = new Ropeloft();
        x.spin(0, 12, Ropeloft.Z, 50);
        x.spin(0, 30, Ropeloft.Z, 70);
        due("spliced", x.splice(0, 1, 3), 2);
        line("the lesser strength, 36", x, 2, Ropeloft.YARN, Ropeloft.Z, 117, 30, 1, 12, 0, Ropeloft.WHOLE, 30, 0);
        due("one is used", x.lineOf(0, STATE), Ropeloft.USED);
        due("two is used", x.lineOf(1, STATE), Ropeloft.USED);
        due("a used one keeps its length", x.lineOf(1, LENGTH), 70);
        x.spin(0, 12, Ropeloft.Z, 50);
        x.sun(1000);
        due("the torque of the first one, now the other way", x.splice(3, 2, 2), 4);
        due("what both can bear now: 72 and 27", x.lineOf(4, STRENGTH), 21);
        due("no damage", x.lineOf(4, DAMAGE), 0);
        due("the torque", x.lineOf(4, TORQUE), 12);
        x.spin(0, 12, Ropeloft.Z, 50);
        due("six tucks cost nothing", x.lineOf(x.splice(5, 4, 6), STRENGTH), 21);
        due("the weight of the first", x.lineOf(6, WEIGHT), 1);
        Ropeloft y = new Ropeloft();
        strand(y, Ropeloft.S, 10, 10);
        strand(y, Ropeloft.S, 10, 12);
        due("strands", y.splice(3, 7, 6), 8);
        line("a spliced strand", y, 8, Ropeloft.STRAND, Ropeloft.S, 11, 211, 3, 6, 0, Ropeloft.WHOLE, 211, 1);
        Ropeloft z = new Ropeloft();
        yarn(z, Ropeloft.S, 1);
        yarn(z, Ropeloft.S, 2);
        due("length 1", z.lineOf(z.splice(0, 1, 2), LENGTH), 1);
        z.fibre(0, 1, 1);
        yarn(z, Ropeloft.S, 5);
        due("a splice may bear nothing", z.lineOf(z.splice(2, 3, 2), STRENGTH), 0);
        due("and breaks at once", z.load(4, 1), Ropeloft.NONE);
    }

    private static void spliceRefuses() {
        Ropeloft x = new Ropeloft();
        yarn(x, Ropeloft.S, 1);
        yarn(x, Ropeloft.S, 1);
        yarn(x, Ropeloft.Z, 50);
        int loose = strand(x, Ropeloft.Z, 50, 15);
        index("no such first", () -> x.splice(7, 0, 2));
        index("no such second", () -> x.splice(0, -1, 2));
        index("no such second, wrong tucks", () -> x.splice(0, 7, 1));
        argument("the same", () -> x.splice(0, 0, 2));
        argument("1 tuck", () -> x.splice(0, 1, 1));
        argument("7 tucks", () -> x.splice(0, 1, 7));
        state("length 0", () -> x.splice(0, 1, 2));
        state("length below 0", () -> x.splice(0, 1, 6));
        state("another hand", () -> x.splice(0, 2, 2));
        state("another kind", () -> x.splice(2, loose, 2));
        state("used", () -> x.splice(0, 3, 2));
        int tight = strand(x, Ropeloft.Z, 50, 14);
        state("two not balanced", () -> x.splice(tight, loose, 2));
        state("one not balanced", () -> x.splice(loose, tight, 2));
        due("still whole", x.lineOf(tight, STATE), Ropeloft.WHOLE);
        yarn(x, Ropeloft.S, 50);
        x.load(11, 90);
        state("broken", () -> x.splice(0, 11, 2));
        fillLines(x, 60);
        state("60 lines", () -> x.splice(58, 59, 2));
        argument("60 lines, 7 tucks", () -> x.splice(58, 59, 7));
    }

    private static void load() {
        CHECKS.begin("promise 8");
        Ropeloft x = new Ropeloft();
        yarn(x, Ropeloft.S, 10);
        due("less than a tenth of what it bears", x.load(0, 7), 0);
        due("a tenth", x.load(0, 8), 1);
        due("what it bears now is 79, so 10 squared more", x.load(0, 79), 101);
        due("what it bears now", x.lineOf(0, BEARS), 71);
        due("the strength stays", x.lineOf(0, STRENGTH), 80);
        due("again", x.load(0, 71), 201);
        due("it is whole", x.lineOf(0, STATE), Ropeloft.WHOLE);
        due("it retires", x.load(0, 63), 301);
        due("it is retired", x.lineOf(0, STATE), Ropeloft.RETIRED);
        state("retired", () -> x.load(0, 1));
        argument("retired, force 0", () -> x.load(0, 0));
        yarn(x, Ropeloft.S, 10);
        x.load(1, 40);
        due("it breaks", x.load(1, 79), Ropeloft.NONE);
        due("it is broken", x.lineOf(1, STATE), Ropeloft.BROKEN);
        due("no more damage by that", x.lineOf(1, DAMAGE), 25);
        state("broken", () -> x.load(1, 1));
        yarn(x, Ropeloft.S, 10);
        due("the greatest force", x.load(2, 1000000), Ropeloft.NONE);
        argument("force 1000001", () -> x.load(2, 1000001));
        argument("force -1", () -> x.load(2, -1));
        index("no such line, force 0", () -> x.load(3, 0));
        index("line -1", () -> x.load(-1, 1));
        state("a strand with too much twist", () -> x.load(strand(x, Ropeloft.S, 10, 15), 1));
        state("a strand with too little twist", () -> x.load(strand(x, Ropeloft.S, 10, 9), 1));
        due("a strand with just enough twist", x.load(strand(x, Ropeloft.S, 10, 10), 1), 0);
        due("a strand with just not too much", x.load(strand(x, Ropeloft.S, 10, 14), 1), 0);
        due("a yarn of much twist", x.load(x.spin(0, 30, Ropeloft.Z, 10), 36), 100);
        Ropeloft y = new Ropeloft();
        yarn(y, Ropeloft.S, 10);
        y.sun(1000);
        y.sun(1000);
        due("300 just reached", y.load(0, 64), 300);
        due("is retired", y.lineOf(0, STATE), Ropeloft.RETIRED);
    }

    private static void sun() {
        CHECKS.begin("promise 9");
        Ropeloft x = new Ropeloft();
        due("no lines", x.sun(1), 0);
        int loose = strand(x, Ropeloft.Z, 10, 30);
        yarn(x, Ropeloft.Z, 10);
        yarn(x, Ropeloft.Z, 10);
        x.load(5, 81);
        yarn(x, Ropeloft.Z, 10);
        due("9 days", x.sun(9), 0);
        due("do nothing", x.lineOf(4, DAMAGE), 0);
        due("19 days", x.sun(19), 0);
        due("are one 10 days, for an unbalanced one too", x.lineOf(loose, DAMAGE), 1);
        due("and for a yarn", x.lineOf(4, DAMAGE), 1);
        due("not for a used one", x.lineOf(0, DAMAGE), 0);
        due("not for a broken one", x.lineOf(5, DAMAGE), 0);
        x.load(6, 79);
        due("the load", x.lineOf(6, DAMAGE), 101);
        due("1000 days", x.sun(1000), 0);
        due("990 days retire one", x.sun(990), 1);
        due("at 300", x.lineOf(6, DAMAGE), 300);
        due("it is retired", x.lineOf(6, STATE), Ropeloft.RETIRED);
        due("the others are at 200", x.lineOf(4, DAMAGE), 200);
        due("two more retire", x.sun(1000), 2);
        due("at 300", x.lineOf(loose, DAMAGE), 300);
        due("a retired one stays", x.lineOf(6, DAMAGE), 300);
        due("none is left", x.sun(1000), 0);
        argument("0 days", () -> x.sun(0));
        argument("1001 days", () -> x.sun(1001));
        argument("MIN days", () -> x.sun(LEAST));
    }

    private static void lineOf() {
        CHECKS.begin("promise 10");
        Ropeloft x = new Ropeloft();
        rope(x, Ropeloft.Z, 1000, 12, 2);
        line("a yarn, used", x, 0, Ropeloft.YARN, Ropeloft.Z, 1000, 80, 1, 12, 0, Ropeloft.USED, 80, 0);
        line("a strand, used", x, 3, Ropeloft.STRAND, Ropeloft.S, 880, 211, 3, 0, 0, Ropeloft.USED, 211, 1);
        line("a rope", x, 12, Ropeloft.ROPE, Ropeloft.Z, 862, 620, 9, 18, 0, Ropeloft.WHOLE, 620, 1);
        x.load(12, 600);
        due("damage", x.lineOf(12, DAMAGE), 81);
        due("what it bears", x.lineOf(12, BEARS), 569);
        x.load(12, 600);
        due("what a broken one bears", x.lineOf(12, BEARS), 569);
        x.spin(0, 2, Ropeloft.S, 5);
        due("a yarn that is just balanced", x.lineOf(13, BALANCED), 1);
        x.spin(0, 3, Ropeloft.S, 5);
        due("a yarn that is just not", x.lineOf(14, BALANCED), 0);
        index("no such line", () -> x.lineOf(15, 0));
        index("no such line, wrong what", () -> x.lineOf(-1, -1));
        index("line 60", () -> x.lineOf(60, 0));
        argument("what -1", () -> x.lineOf(0, -1));
        argument("what 10", () -> x.lineOf(0, 10));
        argument("what MAX", () -> x.lineOf(0, MOST));
    }

    private static void yarns() {
        CHECKS.begin("promise 11");
        Ropeloft x = new Ropeloft();
        int one = rope(x, Ropeloft.S, 1000, 14, 4);
        int two = rope(x, Ropeloft.S, 1000, 14, 4);
        int cable = x.lay(one, two, rope(x, Ropeloft.S, 1000, 14, 4), 4);
        due("a yarn", x.yarns(0), 1);
        due("a strand", x.yarns(3), 3);
        due("a rope", x.yarns(one), 9);
        due("a cable", x.yarns(cable), 27);
        int piece = x.cut(cable, 100);
        due("a piece", x.yarns(piece), 27);
        due("a splice", x.yarns(x.splice(piece, cable, 2)), 27);
        int yarn = x.splice(yarn(x, Ropeloft.S, 9), yarn(x, Ropeloft.S, 9), 2);
        due("a spliced yarn", x.yarns(yarn), 1);
        int strand = x.lay(yarn, x.cut(yarn, 5), yarn(x, Ropeloft.S, 9), 5);
        due("a strand of spliced and cut yarns", x.yarns(strand), 3);
        index("line -1", () -> x.yarns(-1));
        index("no such line", () -> x.yarns(strand + 1));
        Ropeloft y = new Ropeloft();
        strand(y, Ropeloft.S, 1000, 12);
        for (int line = 3; line < 59; line++) {
            y.cut(line, y.lineOf(line, LENGTH) - 1);
        }
        due("a piece of pieces", y.yarns(59), 3);
    }

    // ---- rigs, wraps

    private static void rig() {
        CHECKS.begin("promise 12");
        Ropeloft x = new Ropeloft();
        yarn(x, Ropeloft.S, 10);
        int loose = strand(x, Ropeloft.S, 10, 15);
        due("first", x.rig(0, 1, 0), 0);
        due("of the same line", x.rig(0, 6, 50), 1);
        index("no such line", () -> x.rig(5, 1, 0));
        index("no such line, wrong parts", () -> x.rig(-1, 0, 0));
        argument("parts 0", () -> x.rig(0, 0, 0));
        argument("parts 7", () -> x.rig(0, 7, 0));
        argument("friction -1", () -> x.rig(0, 1, -1));
        argument("friction 51", () -> x.rig(0, 1, 51));
        argument("used, friction 51", () -> x.rig(1, 1, 51));
        state("used", () -> x.rig(1, 1, 0));
        state("not balanced", () -> x.rig(loose, 1, 0));
        due("a balanced strand", x.rig(strand(x, Ropeloft.S, 10, 14), 1, 0), 2);
        for (int rig = 3; rig < 12; rig++) {
            due("one more", x.rig(0, 2, 5), rig);
        }
        state("a 13th rig", () -> x.rig(0, 1, 0));
        argument("a 13th rig, parts 7", () -> x.rig(0, 7, 0));
        index("a 13th rig, no such line", () -> x.rig(60, 1, 0));
        due("the 12th", x.pull(11, 0), 0);
        index("rig 12", () -> x.pull(12, 2));
        Ropeloft y = new Ropeloft();
        yarn(y, Ropeloft.S, 10);
        y.load(0, 81);
        state("broken", () -> y.rig(0, 1, 0));
        yarn(y, Ropeloft.S, 10);
        for (int i = 0; i < 3; i++) {
            y.sun(1000);
        }
        state("retired", () -> y.rig(1, 1, 0));
        index("none was made", () -> y.pull(0, 0));
    }

    private static void pull() {
        CHECKS.begin("promise 13");
        Ropeloft x = new Ropeloft();
        yarn(x, Ropeloft.S, 10);
        x.rig(0, 1, 50);
        x.rig(0, 6, 0);
        x.rig(0, 2, 50);
        x.rig(0, 6, 50);
        due("one part carries all", x.pull(0, 1000000), 1000000);
        due("six parts without friction", x.pull(1, 1000000), 166667);
        due("six parts, a load that they share", x.pull(1, 999996), 166666);
        due("two parts, 7 and 3", x.pull(2, 10), 7);
        due("two parts, 8 and 4", x.pull(2, 11), 8);
        due("two parts, 8 and 4, all used", x.pull(2, 12), 8);
        due("two parts, 1 and 0", x.pull(2, 1), 1);
        due("six parts: 16, 8, 4, 2, 1, 0", x.pull(3, 31), 16);
        due("six parts: 17, 8, 4, 2, 1, 0", x.pull(3, 32), 17);
        for (int rig = 0; rig < 4; rig++) {
            due("no load", x.pull(rig, 0), 0);
        }
        x.load(0, 81);
        due("of a broken line too", x.pull(2, 10), 7);
        index("rig -1", () -> x.pull(-1, 5));
        index("no such rig, wrong load", () -> x.pull(4, -1));
        argument("load -1", () -> x.pull(0, -1));
        argument("load 1000001", () -> x.pull(0, 1000001));
    }

    private static void lift() {
        CHECKS.begin("promise 14");
        Ropeloft x = new Ropeloft();
        yarn(x, Ropeloft.S, 10);
        x.rig(0, 1, 0);
        x.rig(0, 2, 50);
        due("more than a fifth", bit(x.lift(0, 17)), 0);
        due("nothing was loaded", x.lineOf(0, DAMAGE), 0);
        due("just a fifth", bit(x.lift(0, 16)), 1);
        due("loaded with the pull", x.lineOf(0, DAMAGE), 4);
        due("a fifth of 79", bit(x.lift(0, 16)), 0);
        due("two parts: a pull of 15", bit(x.lift(1, 22)), 1);
        due("loaded with 15, not 22", x.lineOf(0, DAMAGE), 5);
        due("two parts: a pull of 16", bit(x.lift(1, 23)), 0);
        index("rig -1", () -> bit(x.lift(-1, 5)));
        index("no such rig, wrong load", () -> bit(x.lift(2, 0)));
        argument("load 0", () -> bit(x.lift(0, 0)));
        argument("load 1000001", () -> bit(x.lift(0, 1000001)));
        Ropeloft y = new Ropeloft();
        yarn(y, Ropeloft.S, 10);
        y.rig(0, 1, 0);
        y.sun(1000);
        y.sun(1000);
        y.sun(999);
        due("299", y.lineOf(0, DAMAGE), 299);
        due("the last lift, 11 of 56", bit(y.lift(0, 11)), 1);
        due("by which it retires", y.lineOf(0, STATE), Ropeloft.RETIRED);
        due("a retired line lifts nothing", bit(y.lift(0, 1)), 0);
        yarn(y, Ropeloft.S, 10);
        y.rig(1, 1, 0);
        y.load(1, 90);
        due("a broken line lifts nothing", bit(y.lift(1, 1)), 0);
        yarn(y, Ropeloft.S, 10);
        y.rig(2, 1, 0);
        y.cut(2, 10);
        due("a used line lifts nothing", bit(y.lift(2, 1)), 0);
    }

    private static void series() {
        CHECKS.begin("promise 15");
        Ropeloft x = new Ropeloft();
        yarn(x, Ropeloft.S, 10);
        x.fibre(1, 1000, 100);
        x.spin(1, 12, Ropeloft.S, 10);
        x.rig(0, 2, 50);
        x.rig(1, 3, 10);
        x.rig(0, 1, 0);
        due("the second has the load: 16, and of that 7", x.series(1, 2, 16), 7);
        due("the second has the load: 19, and of that 13", x.series(0, 1, 50), 13);
        due("the first may not: a pull of 17", x.series(2, 1, 45), Ropeloft.NONE);
        due("the first just may: a pull of 16", x.series(2, 1, 42), 16);
        due("the second may not", x.series(1, 2, 17), Ropeloft.NONE);
        due("nothing was loaded", x.lineOf(0, DAMAGE), 0);
        due("nothing was loaded", x.lineOf(1, DAMAGE), 0);
        due("of one line", x.series(0, 2, 16), 11);
        due("no load", x.series(1, 0, 0), 0);
        index("no such first", () -> x.series(3, 0, 5));
        index("no such second", () -> x.series(0, -1, 5));
        index("no such ones, the same", () -> x.series(3, 3, -1));
        argument("the same", () -> x.series(1, 1, 5));
        argument("load -1", () -> x.series(0, 1, -1));
        argument("load 1000001", () -> x.series(0, 1, 1000001));
        due("the greatest load", x.series(0, 1, 1000000), Ropeloft.NONE);
        x.load(0, 81);
        due("no load, the second is broken", x.series(1, 0, 0), Ropeloft.NONE);
        due("no load, the first is broken", x.series(0, 1, 0), Ropeloft.NONE);
    }

    private static void holds() {
        CHECKS.begin("promise 16");
        Ropeloft x = new Ropeloft();
        due("no wraps", x.holds(0, 100, 77, 0), 77);
        due("one wrap", x.holds(1, 33, 10, 0), 13);
        due("two wraps, one behind the other", x.holds(2, 33, 10, 0), 17);
        due("no tail", x.holds(20, 100, 0, 50), 0);
        due("no grip", x.holds(20, 0, 1000, 0), 1000);
        due("one shake", x.holds(0, 0, 19, 1), 18);
        due("shakes that take nothing", x.holds(0, 0, 9, 50), 9);
        due("fifty shakes", x.holds(0, 0, 1000, 50), 9);
        due("shakes ahead of the wraps", x.holds(1, 50, 15, 1), 21);
        due("the greatest doubled tail", x.holds(20, 100, 953, 0), 999292928L);
        due("at most 1000000000", x.holds(20, 100, 954, 0), 1000000000L);
        argument("wraps -1", () -> x.holds(-1, 0, 0, 0));
        argument("wraps 21", () -> x.holds(21, 0, 0, 0));
        argument("grip -1", () -> x.holds(0, -1, 0, 0));
        argument("grip 101", () -> x.holds(0, 101, 0, 0));
        argument("tail -1", () -> x.holds(0, 0, -1, 0));
        argument("tail 1001", () -> x.holds(0, 0, 1001, 0));
        argument("shakes -1", () -> x.holds(0, 0, 0, -1));
        argument("shakes 51", () -> x.holds(0, 0, 0, 51));
    }

    // ---- the braid

    private static void braid() {
        CHECKS.begin("promise 17");
        Ropeloft x = new Ropeloft();
        x.cross(0, true);
        x.cross(1, true);
        argument("2 carriers", () -> x.braid(2));
        argument("9 carriers", () -> x.braid(9));
        due("wrong ones begin nothing", x.carrier(2), 0);
        due("two crossings ahead", x.braid(8), 2);
        for (int place = 0; place < 8; place++) {
            due("at home", x.carrier(place), place);
        }
        due("no difference", x.over(0, 1), 0);
        due("no order", x.orderOf(), 1);
        due("no order anew", x.orderAnew(), 1);
        x.cross(6, true);
        due("one crossing ahead", x.braid(3), 1);
        index("the fourth is gone", () -> x.carrier(3));
        due("none ahead", x.braid(5), 0);
    }

    private static void cross() {
        CHECKS.begin("promise 18");
        Ropeloft x = new Ropeloft();
        index("place -1", () -> x.cross(-1, true));
        index("place 2 of 3", () -> x.cross(2, true));
        index("place MAX", () -> x.cross(MOST, true));
        for (int i = 1; i <= 60; i++) {
            due("crossings", x.cross(i % 2, i % 3 == 0), i);
        }
        state("a 61st", () -> x.cross(0, true));
        index("a 61st at no place", () -> x.cross(2, true));
        due("60 of them", x.braid(4), 60);
        due("place 2 of 4", x.cross(2, false), 1);
        due("changed", x.carrier(2), 3);
        due("changed", x.carrier(3), 2);
        due("the others not", x.carrier(1), 1);
    }

    private static void carrier() {
        CHECKS.begin("promise 19");
        Ropeloft x = new Ropeloft();
        x.braid(4);
        x.cross(0, true);
        x.cross(1, true);
        x.cross(2, true);
        int[] now = {1, 2, 3, 0};
        for (int place = 0; place < 4; place++) {
            due("place", x.carrier(place), now[place]);
        }
        index("place -1", () -> x.carrier(-1));
        index("place 4", () -> x.carrier(4));
        index("place MIN", () -> x.carrier(LEAST));
    }

    private static void dueOrder(Ropeloft x, int want) {
        due("order", x.orderOf(), want);
        due("order anew", x.orderAnew(), want);
    }

    private static void crossAll(Ropeloft x, int carriers, int... places) {
        x.braid(carriers);
        for (int place : places) {
            x.cross(place, true);
        }
    }

    private static void orders() {
        CHECKS.begin("promises 20 and 21");
        Ropeloft x = new Ropeloft();
        dueOrder(x, 1);
        crossAll(x, 3, 0);
        dueOrder(x, 2);
        crossAll(x, 3, 0, 0);
        dueOrder(x, 1);
        crossAll(x, 3, 0, 1);
        dueOrder(x, 3);
        due("braiding anew moves nothing", x.carrier(0), 1);
        crossAll(x, 4, 0, 2);
        dueOrder(x, 2);
        crossAll(x, 8, 0, 1, 3, 4, 5, 6);
        dueOrder(x, 15);
        crossAll(x, 8, 0, 1, 2, 4, 5, 6);
        dueOrder(x, 4);
        crossAll(x, 8, 0, 1, 2, 3, 4, 5, 6);
        dueOrder(x, 8);
        crossAll(x, 7, 0, 2, 3, 4);
        dueOrder(x, 4);
        crossAll(x, 7, 0, 1, 3, 4, 5);
        dueOrder(x, 12);
        crossAll(x, 5, 0, 2, 3);
        dueOrder(x, 6);
    }

    private static void over() {
        CHECKS.begin("promise 22");
        Ropeloft x = new Ropeloft();
        x.cross(0, true);
        x.cross(0, true);
        due("over, then under", x.over(0, 1), 0);
        x.cross(0, true);
        x.cross(0, false);
        due("over, and the other one under", x.over(0, 1), 2);
        due("the other way round", x.over(1, 0), -2);
        due("never met", x.over(0, 2), 0);
        x.cross(1, false);
        due("under", x.over(1, 2), -1);
        due("over", x.over(2, 1), 1);
        x.cross(0, true);
        due("the carriers count, not the places", x.over(0, 2), 1);
        index("carrier -1", () -> x.over(-1, 0));
        index("carrier 3", () -> x.over(0, 3));
        index("carriers 3 and 3", () -> x.over(3, 3));
        argument("the same", () -> x.over(2, 2));
        crossAll(x, 3);
        for (int i = 0; i < 60; i++) {
            x.cross(0, i % 2 == 0);
        }
        due("all 60", x.over(0, 1), 60);
    }

    // ---- nets

    private static void net() {
        CHECKS.begin("promise 23");
        Ropeloft x = new Ropeloft();
        argument("rows 0", () -> x.net(0, 5));
        argument("rows 11", () -> x.net(11, 5));
        argument("columns 0", () -> x.net(5, 0));
        argument("columns 11", () -> x.net(5, 11));
        for (int net = 0; net < 5; net++) {
            due("number", x.net(net + 1, 10 - net), net);
        }
        state("a sixth", () -> x.net(1, 1));
        argument("a sixth, rows 0", () -> x.net(0, 1));
        for (int net = 0; net < 5; net++) {
            due("a bar in each square", x.hole(net, 0, 0, 10, 10), (net + 1) * (10 - net));
        }
    }

    private static void tear() {
        CHECKS.begin("promise 24");
        Ropeloft x = new Ropeloft();
        x.net(2, 3);
        x.net(10, 10);
        due("right", x.tear(0, 0, 0, true), 1);
        due("left", x.tear(0, 0, 2, false), 2);
        due("to the last column", x.tear(0, 0, 2, true), 3);
        due("from the middle", x.tear(0, 1, 1, false), 4);
        due("in another net", x.tear(1, 9, 9, true), 1);
        state("torn already", () -> x.tear(0, 1, 1, false));
        index("net -1", () -> x.tear(-1, 0, 0, true));
        index("net 2", () -> x.tear(2, 0, 0, true));
        index("row -1", () -> x.tear(0, -1, 1, true));
        index("row 3", () -> x.tear(0, 3, 1, true));
        index("no row below", () -> x.tear(0, 2, 0, true));
        index("column -1", () -> x.tear(0, 1, -1, true));
        index("column 4", () -> x.tear(0, 0, 4, false));
        index("no knot", () -> x.tear(0, 0, 1, true));
        index("no knot to the left", () -> x.tear(0, 0, 0, false));
        index("no knot to the right", () -> x.tear(0, 1, 3, true));
        index("row MAX", () -> x.tear(0, MOST, 1, true));
        index("column MAX", () -> x.tear(0, 1, MOST, true));
        index("row and column MIN", () -> x.tear(0, LEAST, LEAST, false));
        due("the last bar", x.tear(0, 1, 3, false), 5);
        due("all", x.tear(0, 1, 1, true), 6);
        state("all torn", () -> x.tear(0, 0, 0, true));
    }

    private static void hole() {
        CHECKS.begin("promise 25");
        Ropeloft x = new Ropeloft();
        x.net(4, 6);
        due("no bar in a row of knots", x.hole(0, 2, 0, 2, 10), 0);
        due("no bar in a column of knots", x.hole(0, 0, 3, 10, 3), 0);
        due("one square", x.hole(0, 1, 2, 2, 3), 1);
        due("that bar", x.tear(0, 1, 1, true), 2);
        state("was torn", () -> x.tear(0, 1, 3, false));
        due("six squares less the two", x.hole(0, 0, 1, 2, 4), 4);
        due("outside the net", x.hole(0, 4, 6, 10, 10), 0);
        due("wholly outside the net", x.hole(0, 7, 7, 10, 10), 0);
        due("the rest", x.hole(0, 0, 0, 10, 10), 18);
        due("once more", x.hole(0, 0, 0, 10, 10), 0);
        index("net -1", () -> x.hole(-1, 0, 0, 0, 0));
        index("net 1, a wrong rectangle", () -> x.hole(1, 5, 5, 0, 0));
        argument("fromRow -1", () -> x.hole(0, -1, 0, 5, 5));
        argument("fromRow 11", () -> x.hole(0, 11, 0, 11, 5));
        argument("fromColumn -1", () -> x.hole(0, 0, -1, 5, 5));
        argument("fromColumn 11", () -> x.hole(0, 0, 11, 5, 11));
        argument("toRow 11", () -> x.hole(0, 0, 0, 11, 5));
        argument("toColumn 11", () -> x.hole(0, 0, 0, 5, 11));
        argument("toRow below fromRow", () -> x.hole(0, 3, 0, 2, 5));
        argument("toColumn below fromColumn", () -> x.hole(0, 0, 3, 5, 2));
    }

    private static void dueTwines(String what, Ropeloft x, int net, int want) {
        due(what + ", twines", x.twines(net), want);
        due(what + ", twinesAnew", x.twinesAnew(net), want);
    }

    private static void twines() {
        CHECKS.begin("promises 26 and 27");
        Ropeloft x = new Ropeloft();
        x.net(10, 10);
        dueTwines("none torn", x, 0, 0);
        x.tear(0, 0, 0, true);
        dueTwines("one bar", x, 0, 1);
        x.tear(0, 2, 2, true);
        dueTwines("two bars apart", x, 0, 2);
        x.tear(0, 1, 1, true);
        dueTwines("three in a row", x, 0, 1);
        x.tear(0, 1, 1, false);
        dueTwines("a branch", x, 0, 2);
        x.hole(0, 4, 5, 6, 7);
        dueTwines("a ring apart", x, 0, 3);
        x.net(4, 4);
        x.hole(1, 0, 1, 2, 3);
        dueTwines("a ring", x, 1, 1);
        x.tear(1, 3, 3, true);
        dueTwines("a ring and a bar apart", x, 1, 2);
        x.tear(1, 2, 2, true);
        dueTwines("a ring with a tail", x, 1, 1);
        x.net(2, 2);
        x.hole(2, 0, 0, 2, 2);
        dueTwines("four bars that meet in a knot", x, 2, 2);
        x.net(3, 3);
        x.hole(3, 0, 0, 10, 10);
        dueTwines("nine bars", x, 3, 1);
        x.net(10, 9);
        x.hole(4, 0, 0, 10, 10);
        dueTwines("90 bars", x, 4, 1);
        ringsInARow();
        ringsBesideATwine();
        partsThatLieApart();
        index("net -1", () -> x.twines(-1));
        index("net 5", () -> x.twines(5));
        index("net -1", () -> x.twinesAnew(-1));
        index("net 5", () -> x.twinesAnew(5));
        due("asking lays nothing", x.hole(3, 0, 0, 10, 10), 0);
    }

    /** Each ring touches the next one in a knot: a twine that comes by takes in all of them. */
    private static void ringsInARow() {
        Ropeloft x = new Ropeloft();
        x.net(2, 10);
        for (int column = 1; column < 9; column += 2) {
            due("a ring", x.hole(0, 0, column, 2, column + 2), 4);
            dueTwines("rings up to column " + column, x, 0, 1);
        }
        x.tear(0, 1, 1, false);
        dueTwines("with an end", x, 0, 1);
        x.tear(0, 0, 0, true);
        dueTwines("with two ends at one knot", x, 0, 1);
        x.tear(0, 1, 9, true);
        dueTwines("with a third end", x, 0, 2);
    }

    /** A twine that walks upwards where it can passes the rings below it: they have to be taken in all the same. */
    private static void ringsBesideATwine() {
        Ropeloft x = new Ropeloft();
        x.net(10, 10);
        x.tear(0, 0, 0, true);
        x.tear(0, 1, 1, true);
        x.tear(0, 1, 3, false);
        x.tear(0, 0, 4, false);
        dueTwines("down and up again", x, 0, 1);
        x.hole(0, 2, 1, 4, 3);
        dueTwines("with a ring below its middle", x, 0, 1);
        x.net(10, 10);
        x.tear(1, 1, 3, false);
        x.tear(1, 1, 3, true);
        x.hole(1, 2, 1, 4, 3);
        dueTwines("with a ring below its begin", x, 1, 1);
        x.net(10, 10);
        for (int row = 0; row < 3; row++) {
            x.tear(2, row, row, true);
        }
        x.tear(2, 2, 4, false);
        x.tear(2, 1, 3, true);
        dueTwines("a hook", x, 2, 1);
    }

    private static void partsThatLieApart() {
        Ropeloft x = new Ropeloft();
        x.net(10, 10);
        x.tear(0, 0, 0, true);
        x.tear(0, 5, 5, true);
        x.hole(0, 7, 1, 9, 3);
        x.hole(0, 1, 6, 3, 8);
        dueTwines("two bars, four that meet and a ring", x, 0, 1 + 1 + 2 + 1);
    }

    private static void mend() {
        CHECKS.begin("promise 28");
        Ropeloft x = new Ropeloft();
        x.net(4, 4);
        x.net(1, 1);
        due("nothing torn", x.mend(0, 200), 0);
        due("nothing torn, no twines", x.mend(0, 0), 0);
        x.hole(0, 0, 0, 4, 4);
        x.tear(1, 0, 0, true);
        due("one too few", x.mend(0, 1), 0);
        due("still torn", x.hole(0, 0, 0, 4, 4), 0);
        due("just enough", x.mend(0, 2), 16);
        due("mended", x.twines(0), 0);
        due("the other net is torn", x.twines(1), 1);
        due("can be torn again", x.tear(0, 0, 0, true), 1);
        due("more than enough", x.mend(0, 200), 1);
        index("net -1", () -> x.mend(-1, 0));
        index("net 2, wrong twines", () -> x.mend(2, 201));
        argument("twines -1", () -> x.mend(0, -1));
        argument("twines 201", () -> x.mend(0, 201));
    }

    private static void join() {
        CHECKS.begin("promise 29");
        Ropeloft x = new Ropeloft();
        int[] tenOnFour = {2, 3, 2, 3};
        int[] threeOnFive = {0, 1, 0, 1, 1};
        for (int k = 0; k < 4; k++) {
            due("ten on four", x.join(10, 4, k), tenOnFour[k]);
        }
        for (int k = 0; k < 5; k++) {
            due("three on five", x.join(3, 5, k), threeOnFive[k]);
        }
        due("all on one", x.join(10000, 1, 0), 10000);
        due("one on many, the first", x.join(1, 10000, 0), 0);
        due("one on many, the last", x.join(1, 10000, 9999), 1);
        due("the greatest product", x.join(10000, 9999, 9998), 2);
        argument("a 0", () -> x.join(0, 5, 0));
        argument("a 10001", () -> x.join(10001, 5, 0));
        argument("b 0", () -> x.join(5, 0, 0));
        argument("b 10001", () -> x.join(5, 10001, 0));
        argument("b MIN", () -> x.join(5, LEAST, 0));
        argument("k -1", () -> x.join(5, 5, -1));
        argument("k 5", () -> x.join(5, 5, 5));
    }

    private static void depth() {
        CHECKS.begin("promise 30");
        Ropeloft x = new Ropeloft();
        due("the smallest net", x.depth(1, 1, 1), 0);
        due("60 hundredths", x.depth(1, 100, 60), 80);
        due("80 hundredths", x.depth(1, 100, 80), 60);
        due("a root that is rounded down", x.depth(1, 100, 50), 86);
        due("rounded down behind the product", x.depth(3, 5, 50), 12);
        due("the least opening", x.depth(1, 100, 1), 99);
        due("the greatest opening", x.depth(1, 100, 99), 14);
        due("the largest net", x.depth(1000, 1000, 28), 960000);
        argument("meshes 0", () -> x.depth(0, 1, 50));
        argument("meshes 1001", () -> x.depth(1001, 1, 50));
        argument("size 0", () -> x.depth(1, 0, 50));
        argument("size 1001", () -> x.depth(1, 1001, 50));
        argument("hundredths 0", () -> x.depth(1, 1, 0));
        argument("hundredths 100", () -> x.depth(1, 1, 100));
    }

    private static String linesTold(Ropeloft x, int count) {
        StringBuilder told = new StringBuilder();
        for (int line = 0; line < count; line++) {
            for (int what = 0; what < 10; what++) {
                told.append(x.lineOf(line, what)).append(' ');
            }
        }
        return told.toString();
    }

    private static void thrownCallsChangeNothing() {
        CHECKS.begin("thrown calls");
        Ropeloft x = new Ropeloft();
        strand(x, Ropeloft.Z, 100, 15);
        strand(x, Ropeloft.Z, 100, 15);
        x.spin(0, 12, Ropeloft.Z, 1);
        x.spin(0, 12, Ropeloft.Z, 1);
        x.spin(0, 12, Ropeloft.Z, 1);
        String before = linesTold(x, 11);
        state("lay", () -> x.lay(3, 7, 8, 10));
        state("lay to nothing", () -> x.lay(8, 9, 10, 10));
        state("splice of unbalanced ones", () -> x.splice(3, 7, 2));
        state("splice to nothing", () -> x.splice(8, 9, 2));
        state("cut", () -> x.cut(3, 5));
        state("load", () -> x.load(3, 1000));
        argument("sun", () -> x.sun(1001));
        index("no more lines", () -> x.lineOf(11, 0));
        CHECKS.dueText("all lines", linesTold(x, 11), before);
    }
}
