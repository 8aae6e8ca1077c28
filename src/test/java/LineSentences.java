/** The sentences about a new object, fibres, and lines that are spun, laid, cut, ordered and spliced. */
final class LineSentences extends Sentences {
    private LineSentences() {
    }

    static void run() {
        newObject();
        fibres();
        fibreStrength();
        fibreLength();
        fibreRefuses();
        spunYarn();
        spunStrength();
        spinEdges();
        spinRefuses();
        linesAreNumbered();
        linesThatAreLaid();
        laidLength();
        laidStrength();
        laidTorque();
        layEdges();
        layRefusesArguments();
        layRefusesStates();
        layRefusesLengthAndFull();
        balance();
        workOnYarns();
        workOnOtherLines();
        cutLine();
        cutEdges();
        cutRefuses();
        order();
        orderEdges();
        orderRefuses();
        spliceLines();
        splicedStrength();
        splicedLength();
        spliceEdges();
        spliceRefuses();
    }

    // ---- a new object, fibres

    private static void newObject() {
        says(1, "No lines");
        Ropeloft x = new Ropeloft();
        index("no line", () -> x.lineOf(0, 0));
        index("no line", () -> x.yarns(0));
        due("no retiring line", x.sun(1000), 0);
        due("no line in stock", x.order(Ropeloft.YARN, 1), Ropeloft.NONE);
        due("so the first line is 0", yarn(x, Ropeloft.S, 5), 0);
        says(1, "No lines, rigs and nets");
        index("no rig", () -> x.pull(0, 0));
        index("no net", () -> x.twines(0));
        due("so the first rig is 0", x.rig(0, 1, 0), 0);
        due("so the first net is 0", x.net(1, 1), 0);
        due("of which nothing is torn", x.twines(0), 0);
        says(1, "a braid of 3 carriers without crossings");
        for (int place = 0; place < 3; place++) {
            due("carrier at " + place, x.carrier(place), place);
        }
        index("no fourth carrier", () -> x.carrier(3));
        due("order", x.orderOf(), 1);
        due("order anew", x.orderAnew(), 1);
        due("never over", x.over(0, 1), 0);
        due("no crossings", x.braid(3), 0);
    }

    private static int strengthOf(int fibre, int strength, int length) {
        Ropeloft x = new Ropeloft();
        x.fibre(fibre, strength, length);
        return x.lineOf(x.spin(fibre, 12, Ropeloft.S, 5), STRENGTH);
    }

    private static void fibres() {
        says(TERMS, "There are the fibres 0 to 3");
        Ropeloft x = new Ropeloft();
        for (int fibre = 0; fibre < 4; fibre++) {
            due("strength of a yarn of fibre " + fibre, x.lineOf(x.spin(fibre, 12, Ropeloft.S, 5), STRENGTH), 80);
        }
        says(TERMS, "a strength, 1 to 1000, 100 at first, and a length, 1 to 100, 20 at first");
        for (int twist = 12; twist <= 30; twist++) {
            int hundredths = 136 - 3 * twist;
            due("twist " + twist, x.lineOf(x.spin(3, twist, Ropeloft.S, 5), STRENGTH), hundredths * 20 / 25);
        }
        says(2, "Tells a fibre, for yarns from now on.");
        x.fibre(3, 1000, 100);
        due("a yarn from now on", x.lineOf(x.spin(3, 12, Ropeloft.S, 5), STRENGTH), 952);
        due("a yarn of before", x.lineOf(3, STRENGTH), 80);
        due("a yarn of another fibre", x.lineOf(x.spin(2, 12, Ropeloft.S, 5), STRENGTH), 80);
        says(2, "`fibre`: 0 to 3");
        for (int fibre = 0; fibre < 4; fibre++) {
            x.fibre(fibre, 100 * fibre + 100, 95);
        }
        for (int fibre = 0; fibre < 4; fibre++) {
            due("each is told apart", x.lineOf(x.spin(fibre, 12, Ropeloft.S, 5), STRENGTH), 95 * fibre + 95);
        }
        indexEdges(0, 3, fibre -> tell(new Ropeloft(), fibre, 5, 5));
    }

    private static void fibreStrength() {
        says(2, "`strength`: 1 to 1000");
        argumentEdges(1, 1000, strength -> tell(new Ropeloft(), 0, strength, 5));
        due("the least", strengthOf(0, 1, 100), 1);
        due("one more than that", strengthOf(1, 2, 100), 1);
        due("the most", strengthOf(2, 1000, 20), 800);
        due("one less than that", strengthOf(3, 999, 20), 799);
    }

    private static void fibreLength() {
        says(2, "`length`: 1 to 100");
        argumentEdges(1, 100, length -> tell(new Ropeloft(), 0, 5, length));
        due("the least", strengthOf(0, 1000, 1), 166);
        due("one more than that", strengthOf(1, 1000, 2), 285);
        due("the most", strengthOf(2, 1000, 100), 952);
        due("one less than that", strengthOf(3, 1000, 99), 951);
    }

    private static void fibreRefuses() {
        says(2, "Throws `IndexOutOfBoundsException` if there is no such fibre");
        Ropeloft x = new Ropeloft();
        index("fibre -1", () -> tell(x, -1, 5, 5));
        index("fibre 4", () -> tell(x, 4, 5, 5));
        index("fibre 4, wrong strength and length", () -> tell(x, 4, 0, 0));
        index("fibre -1, wrong length", () -> tell(x, -1, 1, 101));
        says(2, "Throws `IllegalArgumentException` if strength or length is out of range");
        argument("strength 0", () -> tell(x, 0, 0, 5));
        argument("strength 1001", () -> tell(x, 1, 1001, 5));
        argument("length 0", () -> tell(x, 2, 5, 0));
        argument("length 101", () -> tell(x, 3, 5, 101));
        argument("both", () -> tell(x, 3, 0, 0));
        for (int fibre = 0; fibre < 4; fibre++) {
            due("nothing was told", x.lineOf(x.spin(fibre, 12, Ropeloft.S, 5), STRENGTH), 80);
        }
    }

    // ---- to spin

    private static void spunYarn() {
        says(3, "Spins a yarn.");
        Ropeloft x = new Ropeloft();
        x.spin(0, 1, Ropeloft.S, 1);
        line("of twist 1, S", x, 0, Ropeloft.YARN, Ropeloft.S, 1, 53, 1, -1, 0, Ropeloft.WHOLE, 53, 1);
        x.spin(0, 30, Ropeloft.Z, 10000);
        line("of twist 30, Z", x, 1, Ropeloft.YARN, Ropeloft.Z, 10000, 36, 1, 30, 0, Ropeloft.WHOLE, 36, 0);
        says(3, "Returns its number.");
        due("the third", x.spin(0, 12, Ropeloft.Z, 2), 2);
        due("the fourth", x.spin(3, 12, Ropeloft.Z, 2), 3);
        says(TERMS, "Its weight is 1, its torque the twist, below 0 for the hand S.");
        for (int twist = 1; twist <= 30; twist++) {
            Ropeloft y = new Ropeloft();
            due("torque of S", y.lineOf(y.spin(0, twist, Ropeloft.S, 9), TORQUE), -twist);
            due("torque of Z", y.lineOf(y.spin(0, twist, Ropeloft.Z, 9), TORQUE), twist);
            due("weight", y.lineOf(0, WEIGHT), 1);
        }
        says(TERMS, "Its damage is 0.");
        due("damage", x.lineOf(2, DAMAGE), 0);
        due("bears its strength", x.lineOf(2, BEARS), x.lineOf(2, STRENGTH));
    }

    /** With a twist of 30 it is 46 hundredths, so that they never are below the 10 which the document names. */
    private static void spunStrength() {
        says(TERMS, "times 100 less 3 for each by which the twist is above or below 12");
        int[] twists = {1, 2, 11, 12, 13, 14, 15, 29, 30};
        int[] hundredths = {67, 70, 97, 100, 97, 94, 91, 49, 46};
        for (int i = 0; i < twists.length; i++) {
            Ropeloft x = new Ropeloft();
            x.fibre(0, 1000, 95);
            due("twist " + twists[i], x.lineOf(x.spin(0, twists[i], Ropeloft.Z, 2), STRENGTH), hundredths[i] * 95 / 10);
        }
        says(TERMS, "but 10 at least, divided by 100; that times the length of the fibre");
        Ropeloft y = new Ropeloft();
        y.fibre(1, 10, 100);
        due("9 of 9.7, then 8 of 8.57", y.lineOf(y.spin(1, 13, Ropeloft.Z, 2), STRENGTH), 8);
        says(TERMS, "it is 1 at least");
        y.fibre(1, 1, 1);
        due("of 0", y.lineOf(y.spin(1, 12, Ropeloft.Z, 2), STRENGTH), 1);
        due("of 0, by the most twist", y.lineOf(y.spin(1, 30, Ropeloft.Z, 2), STRENGTH), 1);
        y.fibre(1, 2, 5);
        due("of just 1", y.lineOf(y.spin(1, 12, Ropeloft.Z, 2), STRENGTH), 1);
        y.fibre(1, 2, 4);
        due("of just not 1", y.lineOf(y.spin(1, 12, Ropeloft.Z, 2), STRENGTH), 1);
        y.fibre(1, 4, 5);
        due("of 2", y.lineOf(y.spin(1, 12, Ropeloft.Z, 2), STRENGTH), 2);
    }

    private static void spinEdges() {
        says(3, "`fibre`: 0 to 3");
        indexEdges(0, 3, fibre -> new Ropeloft().spin(fibre, 12, Ropeloft.S, 5));
        says(3, "`twist`: 1 to 30");
        argumentEdges(1, 30, twist -> new Ropeloft().spin(0, twist, Ropeloft.S, 5));
        says(3, "`hand`: S or Z");
        argumentEdges(0, 1, hand -> new Ropeloft().spin(0, 12, hand, 5));
        Ropeloft x = new Ropeloft();
        due("S", x.lineOf(x.spin(0, 12, Ropeloft.S, 5), HAND), Ropeloft.S);
        due("Z", x.lineOf(x.spin(0, 12, Ropeloft.Z, 5), HAND), Ropeloft.Z);
        says(3, "`length`: 1 to 10000");
        argumentEdges(1, 10000, length -> new Ropeloft().spin(0, 12, Ropeloft.S, length));
        due("the least", x.lineOf(x.spin(0, 12, Ropeloft.S, 1), LENGTH), 1);
        due("the most", x.lineOf(x.spin(0, 12, Ropeloft.S, 10000), LENGTH), 10000);
        says(TERMS, "`S = 0, Z = 1`: Hands.");
        due("S", Ropeloft.S, 0);
        due("Z", Ropeloft.Z, 1);
    }

    private static void spinRefuses() {
        says(3, "Throws `IndexOutOfBoundsException` if there is no such fibre");
        Ropeloft x = new Ropeloft();
        index("fibre 4", () -> x.spin(4, 12, Ropeloft.S, 5));
        index("fibre -1, all else wrong", () -> x.spin(-1, 0, 2, 0));
        says(3, "Throws `IllegalArgumentException` if twist, hand or length is out of range");
        argument("twist 0", () -> x.spin(0, 0, Ropeloft.S, 5));
        argument("twist 31", () -> x.spin(0, 31, Ropeloft.S, 5));
        argument("hand -1", () -> x.spin(0, 12, -1, 5));
        argument("hand 2", () -> x.spin(0, 12, 2, 5));
        argument("length 0", () -> x.spin(0, 12, Ropeloft.S, 0));
        argument("length 10001", () -> x.spin(0, 12, Ropeloft.S, 10001));
        index("nothing was spun", () -> x.lineOf(0, 0));
        says(3, "Throws `IllegalStateException` if there are 60 lines");
        fill(x, 59);
        due("the 60th line", x.spin(3, 12, Ropeloft.Z, 8), 59);
        state("a 61st", () -> x.spin(0, 12, Ropeloft.S, 5));
        index("a 61st of fibre 4", () -> x.spin(4, 12, Ropeloft.S, 5));
        argument("a 61st of twist 31", () -> x.spin(0, 31, Ropeloft.S, 5));
        argument("a 61st of hand 2", () -> x.spin(0, 12, 2, 5));
        argument("a 61st of length 0", () -> x.spin(0, 12, Ropeloft.S, 0));
        index("there is no 61st", () -> x.lineOf(60, 0));
    }

    private static void linesAreNumbered() {
        says(TERMS, "Lines are numbered from 0, at most 60");
        Ropeloft x = new Ropeloft();
        for (int line = 0; line < 60; line++) {
            due("number", x.spin(0, 12, Ropeloft.S, line + 1), line);
        }
        state("a 61st", () -> x.spin(0, 12, Ropeloft.S, 5));
        for (int line = 0; line < 60; line++) {
            due("each has its length", x.lineOf(line, LENGTH), line + 1);
        }
    }

    // ---- to lay

    private static void linesThatAreLaid() {
        says(4, "Lays a line.");
        Ropeloft x = new Ropeloft();
        x.spin(0, 12, Ropeloft.Z, 99);
        x.spin(0, 15, Ropeloft.Z, 70);
        x.spin(0, 1, Ropeloft.Z, 81);
        x.load(0, 80);
        due("its number", x.lay(2, 0, 1, 15), 3);
        line("of 53, 72 and 72", x, 3, Ropeloft.STRAND, Ropeloft.S, 59, 167, 3, 28 - 45, 0, Ropeloft.WHOLE, 167, 0);
        says(TERMS, "The three are USED.");
        for (int line = 0; line < 3; line++) {
            due("line " + line, x.lineOf(line, STATE), Ropeloft.USED);
        }
        due("a used one keeps its length", x.lineOf(1, LENGTH), 70);
        due("and its damage", x.lineOf(0, DAMAGE), 100);
        says(4, "Returns its number.");
        due("the next one", strand(x, Ropeloft.Z, 9, 5), 7);
        says(TERMS, "it is of the next kind and the other hand; its weight is theirs together");
        Ropeloft y = new Ropeloft();
        due("a cable", cable(y, Ropeloft.Z, 100), 39);
        int[] made = {0, 3, 12, 39};
        for (int i = 0; i < 4; i++) {
            due("kind", y.lineOf(made[i], KIND), i);
            due("hand", y.lineOf(made[i], HAND), i % 2);
        }
        due("weight of three", y.lineOf(3, WEIGHT), 3);
        due("weight of nine", y.lineOf(12, WEIGHT), 9);
        line("a cable", y, 39, Ropeloft.CABLE, Ropeloft.Z, 78, 1707, 27, 54, 0, Ropeloft.WHOLE, 1707, 1);
        says(TERMS, "`YARN = 0, STRAND = 1, ROPE = 2, CABLE = 3`: Kinds of lines.");
        due("YARN", Ropeloft.YARN, 0);
        due("STRAND", Ropeloft.STRAND, 1);
        due("ROPE", Ropeloft.ROPE, 2);
        due("CABLE", Ropeloft.CABLE, 3);
        says(TERMS, "`WHOLE = 0, USED = 1, BROKEN = 2, RETIRED = 3`: How lines are.");
        due("WHOLE", Ropeloft.WHOLE, 0);
        due("USED", Ropeloft.USED, 1);
        due("BROKEN", Ropeloft.BROKEN, 2);
        due("RETIRED", Ropeloft.RETIRED, 3);
    }

    private static int lengthOfThree(int one, int two, int three, int twist) {
        Ropeloft x = new Ropeloft();
        return x.lineOf(x.lay(yarn(x, Ropeloft.S, one), yarn(x, Ropeloft.S, two), yarn(x, Ropeloft.S, three), twist),
            LENGTH);
    }

    private static void laidLength() {
        says(TERMS, "its length that of the shortest times 100 less the twist, divided by 100");
        due("the first is the shortest", lengthOfThree(100, 200, 300, 10), 90);
        due("the second is the shortest", lengthOfThree(200, 100, 300, 10), 90);
        due("the third is the shortest", lengthOfThree(300, 200, 100, 10), 90);
        due("rounded down", lengthOfThree(99, 99, 99, 15), 84);
        due("the longest", lengthOfThree(10000, 10000, 10000, 1), 9900);
        due("the shortest that can be", lengthOfThree(2, 2, 2, 30), 1);
        due("that of the least twist", lengthOfThree(2, 2, 2, 1), 1);
    }

    private static void laidStrength() {
        says(TERMS, "its strength theirs together, as they are by now, times 100 less the twist, divided by 100");
        Ropeloft x = new Ropeloft();
        due("240 times 99", x.lineOf(strand(x, Ropeloft.S, 50, 1), STRENGTH), 237);
        due("240 times 70", x.lineOf(strand(x, Ropeloft.S, 50, 30), STRENGTH), 168);
        int worn = yarn(x, Ropeloft.S, 50);
        x.load(worn, 80);
        int laid = x.lay(yarn(x, Ropeloft.S, 50), worn, yarn(x, Ropeloft.S, 50), 10);
        due("80, 72 and 80, times 90, rounded down", x.lineOf(laid, STRENGTH), 208);
        says(TERMS, "below 0 for the hand S, together; its damage is 0.");
        due("no damage of the worn one", x.lineOf(laid, DAMAGE), 0);
        due("it bears all", x.lineOf(laid, BEARS), 208);
    }

    private static void laidTorque() {
        says(TERMS, "its torque theirs together, and the twist times the weight, below 0 for the hand S, together");
        Ropeloft x = new Ropeloft();
        due("36 less 30", x.lineOf(strand(x, Ropeloft.S, 50, 10), TORQUE), 6);
        due("36 less 90", x.lineOf(strand(x, Ropeloft.S, 50, 30), TORQUE), -54);
        due("36 less 3", x.lineOf(strand(x, Ropeloft.S, 50, 1), TORQUE), 33);
        due("30 less 36", x.lineOf(strand(x, Ropeloft.Z, 50, 10), TORQUE), -6);
        due("90 less 36", x.lineOf(strand(x, Ropeloft.Z, 50, 30), TORQUE), 54);
        due("of three torques", x.lineOf(strandOfTorque(x, 50, 7), TORQUE), 7);
        Ropeloft y = new Ropeloft();
        due("162 less 270", y.lineOf(rope(y, Ropeloft.S, 1000, 30, 30), TORQUE), -108);
    }

    private static long layOf(int one, int two, int three) {
        Ropeloft x = withYarns(5);
        x.spin(0, 12, Ropeloft.Z, 60);
        return x.lay(one, two, three, 5);
    }

    private static void layEdges() {
        says(4, "`one`: a line");
        indexEdges(0, 5, one -> layOf(one, 2, 3));
        says(4, "`two`: another one");
        indexEdges(0, 5, two -> layOf(2, two, 3));
        argument("not another one", () -> layOf(2, 2, 3));
        says(4, "`three`: a third one");
        indexEdges(0, 5, three -> layOf(2, 3, three));
        argument("not a third one, the first", () -> layOf(2, 3, 2));
        argument("not a third one, the second", () -> layOf(2, 3, 3));
        says(4, "`twist`: 1 to 30");
        argumentEdges(1, 30, twist -> withYarns(3).lay(0, 1, 2, twist));
    }

    private static void layRefusesArguments() {
        says(4, "Throws `IndexOutOfBoundsException` if there is no such line, of the three");
        Ropeloft x = withYarns(4);
        index("the first", () -> x.lay(-1, 0, 1, 5));
        index("the second", () -> x.lay(0, 4, 1, 5));
        index("the third", () -> x.lay(0, 1, 60, 5));
        index("the third, the others the same", () -> x.lay(0, 0, 4, 5));
        index("the first, a wrong twist", () -> x.lay(4, 0, 1, 31));
        index("the first and the second, the same", () -> x.lay(4, 4, 1, 5));
        says(4, "Throws `IllegalArgumentException` if two of them are the same, or twist is out of range");
        argument("one is two", () -> x.lay(0, 0, 1, 5));
        argument("one is three", () -> x.lay(0, 1, 0, 5));
        argument("two is three", () -> x.lay(0, 1, 1, 5));
        argument("all are the same", () -> x.lay(0, 0, 0, 5));
        argument("twist 0", () -> x.lay(0, 1, 2, 0));
        argument("twist 31", () -> x.lay(0, 1, 2, 31));
        int broken = broken(x);
        argument("one is two, both broken", () -> x.lay(broken, broken, 1, 5));
        argument("broken, twist 31", () -> x.lay(broken, 0, 1, 31));
        due("nothing was laid", x.spin(0, 12, Ropeloft.Z, 5), 5);
    }

    /** Each of the three places gets the wrong line once, the others whole ones of the same hand. */
    private static void layRefusesWith(String what, Ropeloft x, int wrong, int fine, int alsoFine) {
        state(what + " first", () -> x.lay(wrong, fine, alsoFine, 5));
        state(what + " second", () -> x.lay(fine, wrong, alsoFine, 5));
        state(what + " third", () -> x.lay(fine, alsoFine, wrong, 5));
        due("the others stay whole", x.lineOf(fine, STATE) + x.lineOf(alsoFine, STATE), 0);
    }

    private static void layRefusesStates() {
        says(4, "Throws `IllegalStateException` if they are not WHOLE");
        Ropeloft x = new Ropeloft();
        int one = yarn(x, Ropeloft.S, 50);
        int two = yarn(x, Ropeloft.S, 50);
        layRefusesWith("a broken one", x, broken(x), one, two);
        layRefusesWith("a retired one", x, retired(x), one, two);
        strand(x, Ropeloft.Z, 50, 12);
        layRefusesWith("a used one", x, 4, one, two);
        says(4, "not of one kind and hand, CABLEs");
        layRefusesWith("one of the other hand", x, yarn(x, Ropeloft.Z, 50), one, two);
        layRefusesWith("a strand of the same hand", x, strand(x, Ropeloft.S, 50, 12), one, two);
        layRefusesWith("a strand of the other hand", x, strand(x, Ropeloft.Z, 50, 12), one, two);
        Ropeloft y = new Ropeloft();
        int cable = cable(y, Ropeloft.Z, 1000);
        layRefusesWith("a cable, of cables", y, cable, y.cut(cable, 10), y.cut(cable, 10));
        due("three ropes were laid", y.lineOf(12, STATE), Ropeloft.USED);
    }

    private static void layRefusesLengthAndFull() {
        says(4, "its length would be 0, or there are 60 lines");
        Ropeloft x = new Ropeloft();
        int shortest = yarn(x, Ropeloft.S, 1);
        layRefusesWith("one of length 1", x, shortest, yarn(x, Ropeloft.S, 50), yarn(x, Ropeloft.S, 50));
        state("of length 1, by the least twist", () -> x.lay(shortest, 1, 2, 1));
        due("of length 2, by the most twist", x.lineOf(x.lay(yarn(x, Ropeloft.S, 2), 1, 2, 30), LENGTH), 1);
        Ropeloft y = withYarns(59);
        due("the 60th line", y.lay(0, 1, 2, 5), 59);
        state("a 61st", () -> y.lay(3, 4, 5, 5));
        argument("a 61st of twist 31", () -> y.lay(3, 4, 5, 31));
        argument("a 61st of the same", () -> y.lay(3, 3, 5, 5));
        index("a 61st of line 60", () -> y.lay(3, 4, 60, 5));
        due("three that stay", y.lineOf(3, STATE) + y.lineOf(4, STATE) + y.lineOf(5, STATE), 3 * Ropeloft.WHOLE);
    }

    // ---- balance

    private static void balance() {
        says(TERMS, "It is balanced, if its torque, without its sign, is at most twice its weight.");
        Ropeloft x = new Ropeloft();
        due("strand of 6", x.lineOf(strandOfTorque(x, 10, 6), BALANCED), 1);
        due("strand of 7", x.lineOf(strandOfTorque(x, 10, 7), BALANCED), 0);
        due("strand of 0", x.lineOf(strandOfTorque(x, 10, 0), BALANCED), 1);
        due("strand of -6", x.lineOf(strandOfTorque(x, 10, -6), BALANCED), 1);
        due("strand of -7", x.lineOf(strandOfTorque(x, 10, -7), BALANCED), 0);
        due("yarn of 2", x.lineOf(x.spin(0, 2, Ropeloft.Z, 5), BALANCED), 1);
        due("yarn of 3", x.lineOf(x.spin(0, 3, Ropeloft.Z, 5), BALANCED), 0);
        due("yarn of -2", x.lineOf(x.spin(0, 2, Ropeloft.S, 5), BALANCED), 1);
        due("yarn of -3", x.lineOf(x.spin(0, 3, Ropeloft.S, 5), BALANCED), 0);
    }

    private static void workOnYarns() {
        says(TERMS, "A YARN need not be balanced to be used");
        Ropeloft x = new Ropeloft();
        int yarn = x.spin(0, 30, Ropeloft.S, 50);
        due("load", x.load(yarn, 3), 0);
        due("cut", x.cut(yarn, 5), 1);
        due("order", x.order(Ropeloft.YARN, 2), 2);
        due("rig", x.rig(yarn, 1, 0), 0);
        due("splice", x.splice(1, 2, 2), 3);
        due("lay", x.lay(x.spin(0, 30, Ropeloft.S, 50), yarn, x.spin(0, 30, Ropeloft.S, 50), 5), 6);
    }

    private static void workOnBalancedStrand(int torque) {
        Ropeloft x = new Ropeloft();
        int tight = strandOfTorque(x, 10, torque);
        due("load", x.load(tight, 1), 0);
        due("cut", x.cut(tight, 1), 4);
        due("order", x.order(Ropeloft.STRAND, 1), 5);
        due("rig", x.rig(tight, 1, 0), 0);
        due("splice", x.splice(tight, strandOfTorque(x, 10, torque), 2), 10);
    }

    private static void noWorkOnUnbalancedStrand(int torque) {
        Ropeloft x = new Ropeloft();
        int loose = strandOfTorque(x, 50, torque);
        state("load", () -> x.load(loose, 1));
        state("cut", () -> x.cut(loose, 1));
        state("cut of all", () -> x.cut(loose, 44));
        state("rig", () -> x.rig(loose, 1, 0));
        due("no order", x.order(Ropeloft.STRAND, 1), Ropeloft.NONE);
        int tight = strandOfTorque(x, 50, 0);
        state("splice, the first", () -> x.splice(loose, tight, 2));
        state("splice, the second", () -> x.splice(tight, loose, 2));
        due("both stay whole", x.lineOf(loose, STATE) + x.lineOf(tight, STATE), 0);
    }

    private static void workOnOtherLines() {
        says(TERMS, "lines of other kinds can be loaded, cut, spliced and rigged only if they are balanced");
        workOnBalancedStrand(6);
        workOnBalancedStrand(-6);
        noWorkOnUnbalancedStrand(7);
        noWorkOnUnbalancedStrand(-7);
        Ropeloft x = new Ropeloft();
        due("to lay is not among them", rope(x, Ropeloft.S, 1000, 30, 30), 12);
        due("the strands are not balanced", x.lineOf(3, BALANCED), 0);
        due("nor is the rope", x.lineOf(12, BALANCED), 0);
        state("so it is not loaded", () -> x.load(12, 1));
        Ropeloft y = new Ropeloft();
        int cable = looseCable(y);
        due("ropes that are not balanced are a cable", y.lineOf(cable, KIND), Ropeloft.CABLE);
        due("which is not balanced", y.lineOf(cable, BALANCED), 0);
        state("so it is not loaded", () -> y.load(cable, 1));
    }

    private static int looseCable(Ropeloft x) {
        int one = rope(x, Ropeloft.S, 1000, 30, 30);
        int two = rope(x, Ropeloft.S, 1000, 30, 30);
        return x.lay(one, two, rope(x, Ropeloft.S, 1000, 30, 30), 30);
    }

    // ---- to cut

    private static void cutLine() {
        says(5, "Cuts something off a line.");
        Ropeloft x = new Ropeloft();
        strand(x, Ropeloft.Z, 100, 10);
        x.load(3, 100);
        x.cut(3, 30);
        line("what is left", x, 3, Ropeloft.STRAND, Ropeloft.Z, 60, 216, 3, -6, 16, Ropeloft.WHOLE, 212, 1);
        says(TERMS, "To cut a line is to have another one of what is cut off, like it in all but the length.");
        line("what was cut off", x, 4, Ropeloft.STRAND, Ropeloft.Z, 30, 216, 3, -6, 16, Ropeloft.WHOLE, 212, 1);
        due("its yarns", x.yarns(4), 3);
        says(5, "Returns the number of what was cut off.");
        due("the next one", x.cut(3, 1), 5);
        due("and the next one, of a piece", x.cut(4, 1), 6);
        due("of which the length", x.lineOf(6, LENGTH), 1);
    }

    private static Ropeloft withLine(int length) {
        Ropeloft x = new Ropeloft();
        yarn(x, Ropeloft.Z, length);
        return x;
    }

    private static void cutEdges() {
        says(5, "`line`: its number");
        indexEdges(0, 4, line -> withYarns(5).cut(line, 1));
        says(5, "`length`: 1 to its length: how much is cut off");
        argumentEdges(1, 7, length -> withLine(7).cut(0, length));
        argumentEdges(1, 10000, length -> withLine(10000).cut(0, length));
        argumentEdges(1, 1, length -> withLine(1).cut(0, length));
        says(5, "all of it leaves the line USED");
        Ropeloft x = withLine(9);
        due("all but 1", x.cut(0, 8), 1);
        due("leaves it whole", x.lineOf(0, STATE), Ropeloft.WHOLE);
        due("of length 1", x.lineOf(0, LENGTH), 1);
        due("all of it", x.cut(0, 1), 2);
        due("leaves it used", x.lineOf(0, STATE), Ropeloft.USED);
        due("the piece is whole", x.lineOf(2, STATE), Ropeloft.WHOLE);
        says(TERMS, "a line that was wholly cut up, whose length is 0 then, or spliced is USED, too");
        due("wholly cut up", x.lineOf(0, LENGTH), 0);
        due("an order for all of it", x.order(Ropeloft.YARN, 8), 3);
        due("leaves it used", x.lineOf(1, STATE), Ropeloft.USED);
        due("of length 0", x.lineOf(1, LENGTH), 0);
        int spliced = x.splice(2, 3, 2);
        due("spliced", x.lineOf(2, STATE), Ropeloft.USED);
        due("spliced", x.lineOf(3, STATE), Ropeloft.USED);
        due("the splice", x.lineOf(spliced, STATE), Ropeloft.WHOLE);
    }

    private static void cutRefuses() {
        says(5, "Throws `IndexOutOfBoundsException` if there is no such line");
        Ropeloft x = withYarns(2);
        index("line -1", () -> x.cut(-1, 1));
        index("line 2", () -> x.cut(2, 1));
        index("line 2, length 0", () -> x.cut(2, 0));
        index("line 60", () -> x.cut(60, 1));
        says(5, "Throws `IllegalArgumentException` if length is out of range");
        argument("length 0", () -> x.cut(0, 0));
        argument("length 8 of 7", () -> x.cut(0, 8));
        x.cut(0, 7);
        argument("length 1 of 0", () -> x.cut(0, 1));
        argument("length 0 of 0", () -> x.cut(0, 0));
        int broken = broken(x);
        argument("broken, length 11 of 10", () -> x.cut(broken, 11));
        int loose = strandOfTorque(x, 50, 7);
        argument("not balanced, length 0", () -> x.cut(loose, 0));
        argument("laid, length 51 of 50", () -> x.cut(loose - 1, 51));
        says(5, "Throws `IllegalStateException` if it is not WHOLE, not balanced, being no YARN");
        state("broken", () -> x.cut(broken, 10));
        int retired = retired(x);
        state("retired", () -> x.cut(retired, 10));
        state("laid", () -> x.cut(loose - 1, 50));
        state("not balanced", () -> x.cut(loose, 1));
        due("it stays", x.lineOf(loose, LENGTH), 44);
        x.splice(1, 2, 2);
        state("spliced", () -> x.cut(1, 1));
        says(5, "or there are 60 lines");
        Ropeloft y = withYarns(59);
        due("the 60th line", y.cut(0, 3), 59);
        state("a 61st", () -> y.cut(1, 3));
        state("a 61st, all of it", () -> y.cut(1, 7));
        argument("a 61st, length 8 of 7", () -> y.cut(1, 8));
        index("a 61st of line 60", () -> y.cut(60, 1));
        due("the line stays", y.lineOf(1, LENGTH), 7);
    }

    // ---- to order

    private static void order() {
        says(6, "Cuts an order from stock: from the shortest line of a kind");
        Ropeloft x = new Ropeloft();
        yarn(x, Ropeloft.S, 60);
        yarn(x, Ropeloft.S, 40);
        yarn(x, Ropeloft.Z, 40);
        yarn(x, Ropeloft.S, 30);
        due("the number of what was cut off", x.order(Ropeloft.YARN, 31), 4);
        due("from the shortest", x.lineOf(1, LENGTH), 9);
        says(6, "of several the lowest");
        due("one of 40 is left", x.order(Ropeloft.YARN, 32), 5);
        due("by that it is cut", x.lineOf(2, LENGTH), 8);
        yarn(x, Ropeloft.S, 50);
        yarn(x, Ropeloft.S, 50);
        due("two of 50", x.order(Ropeloft.YARN, 45), 8);
        due("the lower one is cut", x.lineOf(6, LENGTH), 5);
        due("the other one not", x.lineOf(7, LENGTH), 50);
        says(6, "and has the length at least");
        due("just the length", x.order(Ropeloft.YARN, 60), 9);
        due("is cut up", x.lineOf(0, STATE), Ropeloft.USED);
        due("1 more than the longest", x.order(Ropeloft.YARN, 61), Ropeloft.NONE);
        says(6, "Returns the number of what was cut off; NONE if there is no such line.");
        due("the piece of 60", x.order(Ropeloft.YARN, 60), 10);
        due("no strand", x.order(Ropeloft.STRAND, 1), Ropeloft.NONE);
        due("no cable", x.order(Ropeloft.CABLE, 10000), Ropeloft.NONE);
        due("no line at all", new Ropeloft().order(Ropeloft.YARN, 1), Ropeloft.NONE);
        says(TERMS, "`NONE = -1`: There is none.");
        due("NONE", Ropeloft.NONE, -1);
        says(6, "that is WHOLE, and can be cut");
        Ropeloft y = new Ropeloft();
        broken(y);
        retired(y);
        int loose = strand(y, Ropeloft.Z, 50, 15);
        due("broken, retired and used ones are no stock", y.order(Ropeloft.YARN, 1), Ropeloft.NONE);
        due("nor strands that are not balanced", y.order(Ropeloft.STRAND, 1), Ropeloft.NONE);
        int tight = strand(y, Ropeloft.Z, 60, 14);
        due("a longer one that is balanced", y.order(Ropeloft.STRAND, 20), 10);
        due("was cut", y.lineOf(tight, LENGTH), 31);
        due("the other one was not", y.lineOf(loose, LENGTH), 42);
        due("a yarn of much twist", y.order(y.lineOf(y.spin(0, 30, Ropeloft.S, 5), KIND), 5), 12);
    }

    private static void orderEdges() {
        says(6, "`kind`: YARN to CABLE");
        argumentEdges(Ropeloft.YARN, Ropeloft.CABLE, kind -> withYarns(2).order(kind, 1));
        Ropeloft x = new Ropeloft();
        int cable = cable(x, Ropeloft.Z, 1000);
        due("a cable", x.order(Ropeloft.CABLE, 700), 40);
        due("was cut", x.lineOf(cable, LENGTH), 92);
        due("no rope", x.order(Ropeloft.ROPE, 1), Ropeloft.NONE);
        says(6, "`length`: 1 to 10000");
        argumentEdges(1, 10000, length -> withYarns(2).order(Ropeloft.YARN, length));
        due("of length 7, the least", withYarns(2).order(Ropeloft.YARN, 1), 2);
        Ropeloft y = withLine(10000);
        due("the most", y.order(Ropeloft.YARN, 10000), 1);
        due("all of it", y.lineOf(0, LENGTH), 0);
    }

    private static void orderRefuses() {
        says(6, "Throws `IllegalArgumentException` if kind or length is out of range");
        Ropeloft x = withYarns(58);
        argument("kind -1", () -> x.order(-1, 1));
        argument("kind 4", () -> x.order(4, 1));
        argument("length 0", () -> x.order(Ropeloft.YARN, 0));
        argument("length 10001", () -> x.order(Ropeloft.YARN, 10001));
        due("no such line, 58 lines", x.order(Ropeloft.YARN, 8), Ropeloft.NONE);
        says(6, "Throws `IllegalStateException` if there are 60 lines");
        due("the 59th line", x.order(Ropeloft.YARN, 3), 58);
        due("no such line, 59 lines", x.order(Ropeloft.CABLE, 1), Ropeloft.NONE);
        due("the 60th line", x.order(Ropeloft.YARN, 3), 59);
        state("a 61st", () -> x.order(Ropeloft.YARN, 3));
        argument("a 61st, wrong kind", () -> x.order(4, 1));
        argument("a 61st, wrong length", () -> x.order(Ropeloft.YARN, 0));
        due("nothing was cut", x.lineOf(2, LENGTH), 7);
        says(6, "also if there is no such line");
        state("no such line", () -> x.order(Ropeloft.CABLE, 1));
        state("none so long", () -> x.order(Ropeloft.YARN, 10000));
    }

    // ---- to splice

    private static void spliceLines() {
        says(7, "Splices two lines.");
        Ropeloft x = new Ropeloft();
        strand(x, Ropeloft.S, 10, 10);
        strand(x, Ropeloft.S, 10, 12);
        x.splice(3, 7, 6);
        line("a spliced strand", x, 8, Ropeloft.STRAND, Ropeloft.S, 11, 211, 3, 6, 0, Ropeloft.WHOLE, 211, 1);
        says(TERMS, "Both are USED.");
        due("one", x.lineOf(3, STATE), Ropeloft.USED);
        due("two", x.lineOf(7, STATE), Ropeloft.USED);
        due("a used one keeps its length", x.lineOf(3, LENGTH), 9);
        says(7, "Returns the number of the line.");
        due("the next one", x.splice(yarn(x, Ropeloft.S, 5), yarn(x, Ropeloft.S, 5), 2), 11);
        says(TERMS, "the greater weight, the torque of the first one, and no damage");
        Ropeloft y = new Ropeloft();
        y.spin(0, 12, Ropeloft.Z, 50);
        y.spin(0, 30, Ropeloft.Z, 70);
        y.sun(1000);
        due("torque of the first", y.lineOf(y.splice(0, 1, 2), TORQUE), 12);
        due("no damage of both", y.lineOf(2, DAMAGE), 0);
        due("weight of yarns", y.lineOf(2, WEIGHT), 1);
        y.spin(0, 30, Ropeloft.Z, 70);
        due("torque of the first, that of more twist", y.lineOf(y.splice(3, 2, 2), TORQUE), 30);
    }

    private static int strengthOfTwo(int one, int two, int tucks) {
        Ropeloft x = new Ropeloft();
        return x.lineOf(x.splice(yarnThatBears(x, one), yarnThatBears(x, two), tucks), STRENGTH);
    }

    private static void splicedStrength() {
        says(TERMS, "what both can bear now, the lesser one, times 70 and 5 for each tuck, together, divided by 100");
        due("2 tucks: 80", strengthOfTwo(100, 200, 2), 80);
        due("3 tucks: 85", strengthOfTwo(200, 100, 3), 85);
        due("6 tucks: 100", strengthOfTwo(100, 100, 6), 100);
        due("rounded down", strengthOfTwo(99, 100, 2), 79);
        due("rounded down to 0", strengthOfTwo(1, 1, 5), 0);
        due("1 with 6 tucks", strengthOfTwo(1, 1, 6), 1);
        Ropeloft x = new Ropeloft();
        int worn = yarn(x, Ropeloft.S, 10);
        x.load(worn, 80);
        due("72 by now, 57 of it", x.lineOf(x.splice(worn, yarn(x, Ropeloft.S, 10), 2), STRENGTH), 57);
        int wornToo = yarn(x, Ropeloft.S, 10);
        x.load(wornToo, 80);
        due("72 by now, 61 of it", x.lineOf(x.splice(yarn(x, Ropeloft.S, 10), wornToo, 3), STRENGTH), 61);
    }

    private static int lengthOfTwo(int one, int two, int tucks) {
        Ropeloft x = new Ropeloft();
        return x.lineOf(x.splice(yarn(x, Ropeloft.S, one), yarn(x, Ropeloft.S, two), tucks), LENGTH);
    }

    private static void splicedLength() {
        says(TERMS, "a line with the lengths together less the tucks");
        due("2 tucks", lengthOfTwo(10, 20, 2), 28);
        due("6 tucks", lengthOfTwo(20, 10, 6), 24);
        due("more than 10000", lengthOfTwo(10000, 10000, 2), 19998);
        due("just 1", lengthOfTwo(1, 2, 2), 1);
        due("just 1", lengthOfTwo(6, 1, 6), 1);
    }

    private static void spliceEdges() {
        says(7, "`one`: a line");
        indexEdges(0, 4, one -> withYarns(5).splice(one, 2, 2));
        says(7, "`two`: another one");
        indexEdges(0, 4, two -> withYarns(5).splice(2, two, 2));
        says(7, "`tucks`: 2 to 6");
        argumentEdges(2, 6, tucks -> withYarns(2).splice(0, 1, tucks));
    }

    private static void spliceRefuses() {
        says(7, "Throws `IndexOutOfBoundsException` if there is no such line, of both");
        Ropeloft x = withYarns(2);
        index("the first", () -> x.splice(2, 0, 2));
        index("the second", () -> x.splice(0, -1, 2));
        index("the second, wrong tucks", () -> x.splice(0, 2, 1));
        index("both, the same", () -> x.splice(2, 2, 2));
        says(7, "Throws `IllegalArgumentException` if both are the same, or tucks are out of range");
        argument("the same", () -> x.splice(0, 0, 2));
        argument("1 tuck", () -> x.splice(0, 1, 1));
        argument("7 tucks", () -> x.splice(0, 1, 7));
        int broken = broken(x);
        argument("the same, broken", () -> x.splice(broken, broken, 2));
        argument("broken, 7 tucks", () -> x.splice(broken, 0, 7));
        says(7, "Throws `IllegalStateException` if they are not WHOLE");
        int fine = yarn(x, Ropeloft.S, 10);
        spliceRefusesWith("broken", x, broken, fine);
        spliceRefusesWith("retired", x, retired(x), fine);
        strand(x, Ropeloft.Z, 50, 12);
        spliceRefusesWith("laid", x, 5, fine);
        says(7, "not of one kind and hand");
        spliceRefusesWith("the other hand", x, 0, fine);
        spliceRefusesWith("another kind", x, strand(x, Ropeloft.S, 50, 12), fine);
        says(7, "one is not balanced, being no YARN");
        int tight = strandOfTorque(x, 50, 6);
        spliceRefusesWith("not balanced", x, strandOfTorque(x, 50, 7), tight);
        says(7, "its length would be 0 or below");
        int one = yarn(x, Ropeloft.S, 1);
        int two = yarn(x, Ropeloft.S, 1);
        state("length 0", () -> x.splice(one, two, 2));
        state("length -1", () -> x.splice(one, two, 3));
        state("length -4", () -> x.splice(one, two, 6));
        due("both stay whole", x.lineOf(one, STATE) + x.lineOf(two, STATE), 0);
        says(7, "or there are 60 lines");
        Ropeloft y = withYarns(59);
        due("the 60th line", y.splice(0, 1, 2), 59);
        state("a 61st", () -> y.splice(2, 3, 2));
        argument("a 61st, 7 tucks", () -> y.splice(2, 3, 7));
        argument("a 61st, the same", () -> y.splice(2, 2, 2));
        index("a 61st, of line 60", () -> y.splice(2, 60, 2));
        due("both stay whole", y.lineOf(2, STATE) + y.lineOf(3, STATE), 0);
    }

    private static void spliceRefusesWith(String what, Ropeloft x, int wrong, int fine) {
        state(what + ", the first", () -> x.splice(wrong, fine, 2));
        state(what + ", the second", () -> x.splice(fine, wrong, 2));
        due("the other one stays whole", x.lineOf(fine, STATE), Ropeloft.WHOLE);
    }
}
