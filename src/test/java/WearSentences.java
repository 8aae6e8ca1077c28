/** The sentences about lines that are loaded, worn by the sun, and told of. */
final class WearSentences extends Sentences {
    private WearSentences() {
    }

    static void run() {
        whatALineBears();
        breaking();
        damage();
        retiring();
        loadEdges();
        loadRefuses();
        daysOfSun();
        linesInTheSun();
        linesThatTheSunRetires();
        sunEdges();
        toldLines();
        toldKindsAndHands();
        toldStates();
        lineOfEdges();
        lineOfRefuses();
        yarnsInLaidLines();
        yarnsInCutLines();
        yarnsInSplicedLines();
        yarnsEdges();
    }

    // ---- loads

    private static void whatALineBears() {
        says(TERMS, "What a line can bear now is its strength times 1000 less its damage, divided by 1000");
        Ropeloft x = new Ropeloft();
        yarn(x, Ropeloft.S, 10);
        due("without damage", x.lineOf(0, BEARS), 80);
        x.sun(10);
        due("79.92", x.lineOf(0, BEARS), 79);
        x.sun(110);
        due("79.04", x.lineOf(0, BEARS), 79);
        x.sun(10);
        due("78.96", x.lineOf(0, BEARS), 78);
        due("the strength stays", x.lineOf(0, STRENGTH), 80);
        x.sun(1000);
        x.sun(1000);
        due("with 213", x.lineOf(0, BEARS), 62);
        x.sun(860);
        due("with 299", x.lineOf(0, BEARS), 56);
        x.sun(10);
        due("with 300, retired", x.lineOf(0, BEARS), 56);
        says(TERMS, "its safe load is a fifth of that");
        safeLoad(4, 0);
        safeLoad(5, 1);
        safeLoad(9, 1);
        safeLoad(10, 2);
    }

    private static void safeLoad(int strength, int safe) {
        Ropeloft x = new Ropeloft();
        x.rig(yarnThatBears(x, strength), 1, 0);
        due("more is not lifted", bit(x.lift(0, safe + 1)), 0);
        due("so much is lifted", safe == 0 ? 1 : bit(x.lift(0, safe)), 1);
    }

    private static void breaking() {
        says(TERMS, "A load that is more than a line can bear now breaks it: it is BROKEN.");
        Ropeloft x = new Ropeloft();
        yarn(x, Ropeloft.S, 10);
        due("80 of 80", x.load(0, 80), 100);
        due("it is whole", x.lineOf(0, STATE), Ropeloft.WHOLE);
        due("73 of 72", x.load(0, 73), Ropeloft.NONE);
        due("it is broken", x.lineOf(0, STATE), Ropeloft.BROKEN);
        due("no more damage by that", x.lineOf(0, DAMAGE), 100);
        yarn(x, Ropeloft.S, 10);
        due("81 of 80", x.load(1, 81), Ropeloft.NONE);
        due("it is broken", x.lineOf(1, STATE), Ropeloft.BROKEN);
        due("no damage by that", x.lineOf(1, DAMAGE), 0);
        int weak = yarnThatBears(x, 1);
        due("1 of 1", x.load(weak, 1), 100);
        due("1 of 0", x.load(weak, 1), Ropeloft.NONE);
        due("it bears nothing", x.lineOf(weak, BEARS), 0);
        int slack = x.splice(yarnThatBears(x, 1), yarnThatBears(x, 1), 2);
        due("1 of a strength of 0", x.load(slack, 1), Ropeloft.NONE);
        due("it is broken", x.lineOf(slack, STATE), Ropeloft.BROKEN);
    }

    private static long damageBy(int strength, int force) {
        Ropeloft x = new Ropeloft();
        return x.load(yarnThatBears(x, strength), force);
    }

    /** A line that is loaded has less than 300 and gets 100 at most, so that it never reaches the 1000. */
    private static void damage() {
        says(TERMS, "Otherwise its damage becomes more by the square of 10 times the load");
        due("10 times 7 less than 80", damageBy(80, 7), 0);
        due("10 times 8 just 80", damageBy(80, 8), 1);
        due("15 tenths, rounded down", damageBy(80, 15), 1);
        due("2 squared", damageBy(80, 16), 4);
        due("9 squared", damageBy(80, 79), 81);
        due("10 squared", damageBy(80, 80), 100);
        due("33 tenths of 3", damageBy(3, 1), 9);
        due("66 tenths of 3", damageBy(3, 2), 36);
        due("the most that a yarn bears", damageBy(952, 952), 100);
        says(TERMS, "(the quotient squared), at most 1000");
        Ropeloft x = new Ropeloft();
        yarn(x, Ropeloft.S, 10);
        due("10 squared", x.load(0, 80), 100);
        due("and of what it bears now, 72", x.load(0, 72), 200);
        due("and 1 squared, of 64", x.load(0, 7), 201);
        due("and 0", x.load(0, 6), 201);
        due("and 10 squared, of 63", x.load(0, 63), 301);
        says(8, "Returns the damage then; NONE if it breaks.");
        due("none yet", damageBy(80, 1), 0);
        due("just not", damageBy(80, 80), 100);
        due("it breaks", damageBy(80, 81), Ropeloft.NONE);
        says(8, "Loads a line.");
        Ropeloft y = withYarns(3);
        y.load(1, 40);
        due("that one", y.lineOf(1, DAMAGE), 25);
        due("not the one ahead", y.lineOf(0, DAMAGE), 0);
        due("not the one behind", y.lineOf(2, DAMAGE), 0);
    }

    private static int wornTo299(Ropeloft x) {
        int line = yarn(x, Ropeloft.S, 10);
        x.sun(1000);
        x.sun(1000);
        x.sun(990);
        return line;
    }

    private static void retiring() {
        says(TERMS, "with a damage of 300 or more it is RETIRED");
        Ropeloft x = new Ropeloft();
        int line = wornTo299(x);
        due("299", x.lineOf(line, DAMAGE), 299);
        due("is whole", x.lineOf(line, STATE), Ropeloft.WHOLE);
        due("5 of 56 add nothing", x.load(line, 5), 299);
        due("still whole", x.lineOf(line, STATE), Ropeloft.WHOLE);
        due("6 of 56 add 1", x.load(line, 6), 300);
        due("300 is retired", x.lineOf(line, STATE), Ropeloft.RETIRED);
        Ropeloft y = new Ropeloft();
        int other = wornTo299(y);
        due("56 of 56 add 100", y.load(other, 56), 399);
        due("399 is retired", y.lineOf(other, STATE), Ropeloft.RETIRED);
        Ropeloft z = new Ropeloft();
        int last = wornTo299(z);
        due("57 of 56 break it", z.load(last, 57), Ropeloft.NONE);
        due("so it is not retired", z.lineOf(last, STATE), Ropeloft.BROKEN);
    }

    private static void loadEdges() {
        says(8, "`line`: its number");
        indexEdges(0, 4, line -> withYarns(5).load(line, 1));
        says(8, "`force`: 1 to 1000000");
        argumentEdges(1, 1000000, force -> withYarns(1).load(0, force));
        due("the least", withYarns(1).load(0, 1), 0);
        due("the most", withYarns(1).load(0, 1000000), Ropeloft.NONE);
    }

    private static void loadRefuses() {
        says(8, "Throws `IndexOutOfBoundsException` if there is no such line");
        Ropeloft x = new Ropeloft();
        index("no line at all", () -> x.load(0, 1));
        int broken = broken(x);
        index("line -1", () -> x.load(-1, 1));
        index("line 1", () -> x.load(1, 1));
        index("line 1, force 0", () -> x.load(1, 0));
        says(8, "Throws `IllegalArgumentException` if force is out of range");
        argument("broken, force 0", () -> x.load(broken, 0));
        argument("broken, force 1000001", () -> x.load(broken, 1000001));
        argument("whole, force 0", () -> x.load(yarn(x, Ropeloft.S, 5), 0));
        due("no damage by that", x.lineOf(1, DAMAGE), 0);
        says(8, "Throws `IllegalStateException` if it is not WHOLE, or not balanced, being no YARN");
        state("broken", () -> x.load(broken, 1));
        int retired = retired(x);
        state("retired", () -> x.load(retired, 1));
        due("no more damage by that", x.lineOf(retired, DAMAGE), 300);
        int loose = strandOfTorque(x, 50, 7);
        state("laid", () -> x.load(loose - 1, 1));
        state("not balanced", () -> x.load(loose, 1));
        state("not balanced, more than it bears", () -> x.load(loose, 1000000));
        due("it stays whole", x.lineOf(loose, STATE), Ropeloft.WHOLE);
        x.cut(1, 5);
        state("cut up", () -> x.load(1, 1));
        due("balanced", x.load(strandOfTorque(x, 50, 6), 1), 0);
        due("a yarn of much twist", x.load(x.spin(0, 30, Ropeloft.S, 5), 1), 0);
    }

    // ---- sun

    private static int damageByDays(int... days) {
        Ropeloft x = withYarns(1);
        for (int told : days) {
            x.sun(told);
        }
        return x.lineOf(0, DAMAGE);
    }

    private static void daysOfSun() {
        says(TERMS, "more by 1 for each 10 days, by how many were told at once, rounded down");
        due("1 day", damageByDays(1), 0);
        due("9 days", damageByDays(9), 0);
        due("10 days", damageByDays(10), 1);
        due("19 days", damageByDays(19), 1);
        due("20 days", damageByDays(20), 2);
        due("999 days", damageByDays(999), 99);
        due("1000 days", damageByDays(1000), 100);
        due("5 days and 5 days", damageByDays(5, 5), 0);
        due("19 days and 19 days", damageByDays(19, 19), 2);
        says(9, "Lets days of sun pass.");
        due("1000 days twice", damageByDays(1000, 1000), 200);
        due("until it is retired", damageByDays(1000, 1000, 1000, 1000), 300);
    }

    private static void linesInTheSun() {
        says(TERMS, "Days of sun make the damage of all lines that are WHOLE more");
        Ropeloft x = new Ropeloft();
        int broken = broken(x);
        int retired = retired(x);
        int loose = strandOfTorque(x, 50, 7);
        int twisted = x.spin(0, 30, Ropeloft.S, 5);
        int cutUp = yarn(x, Ropeloft.S, 5);
        int piece = x.cut(cutUp, 5);
        int spliced = yarn(x, Ropeloft.S, 5);
        int splice = x.splice(spliced, yarn(x, Ropeloft.S, 5), 2);
        fill(x, 60);
        x.sun(25);
        due("a strand that is not balanced", x.lineOf(loose, DAMAGE), 2);
        due("a yarn that is not balanced", x.lineOf(twisted, DAMAGE), 2);
        due("a piece", x.lineOf(piece, DAMAGE), 2);
        due("a splice", x.lineOf(splice, DAMAGE), 2);
        due("the last of 60 lines", x.lineOf(59, DAMAGE), 2);
        due("not a broken one", x.lineOf(broken, DAMAGE), 0);
        due("not a retired one", x.lineOf(retired, DAMAGE), 300);
        due("not a laid one", x.lineOf(loose - 1, DAMAGE), 0);
        due("not one that was cut up", x.lineOf(cutUp, DAMAGE), 0);
        due("not a spliced one", x.lineOf(spliced, DAMAGE), 0);
    }

    private static void linesThatTheSunRetires() {
        says(TERMS, "they retire likewise");
        Ropeloft x = new Ropeloft();
        int line = wornTo299(x);
        due("9 days", x.sun(9), 0);
        due("299", x.lineOf(line, STATE), Ropeloft.WHOLE);
        due("10 days", x.sun(10), 1);
        due("300", x.lineOf(line, STATE), Ropeloft.RETIRED);
        due("its damage", x.lineOf(line, DAMAGE), 300);
        Ropeloft y = new Ropeloft();
        int other = wornTo299(y);
        due("1000 days", y.sun(1000), 1);
        due("399", y.lineOf(other, DAMAGE), 399);
        says(9, "Returns how many lines retire by that.");
        due("no line", new Ropeloft().sun(1000), 0);
        Ropeloft z = withYarns(60);
        z.load(0, 80);
        z.load(1, 80);
        z.load(2, 81);
        due("none", z.sun(1000), 0);
        due("two of 200", z.sun(1000), 2);
        due("the others, but the broken one", z.sun(1000), 57);
        due("none is left", z.sun(1000), 0);
        due("all of 60", retiredAtOnce(), 60);
    }

    private static int retiredAtOnce() {
        Ropeloft x = withYarns(60);
        x.sun(1000);
        x.sun(1000);
        return x.sun(1000);
    }

    private static void sunEdges() {
        says(9, "`days`: 1 to 1000");
        argumentEdges(1, 1000, days -> withYarns(2).sun(days));
        says(9, "Throws `IllegalArgumentException` if days is out of range");
        Ropeloft x = withYarns(1);
        argument("0 days", () -> x.sun(0));
        argument("-1000 days", () -> x.sun(-1000));
        argument("1001 days", () -> x.sun(1001));
        argument("MIN days", () -> x.sun(LEAST));
        due("nothing wears", x.lineOf(0, DAMAGE), 0);
    }

    // ---- what is told

    private static void toldLines() {
        says(10, "Tells of a line.");
        Ropeloft x = new Ropeloft();
        rope(x, Ropeloft.Z, 1000, 12, 2);
        x.load(12, 600);
        line("a yarn", x, 0, Ropeloft.YARN, Ropeloft.Z, 1000, 80, 1, 12, 0, Ropeloft.USED, 80, 0);
        line("a strand", x, 3, Ropeloft.STRAND, Ropeloft.S, 880, 211, 3, 0, 0, Ropeloft.USED, 211, 1);
        line("a rope", x, 12, Ropeloft.ROPE, Ropeloft.Z, 862, 620, 9, 18, 81, Ropeloft.WHOLE, 569, 1);
        says(10, "Returns as told.");
        due("of a line of length 0", lengthOfCutUpLine(), 0);
        Ropeloft y = new Ropeloft();
        due("a yarn is told as other lines", y.lineOf(y.spin(0, 3, Ropeloft.S, 5), BALANCED), 0);
    }

    private static int lengthOfCutUpLine() {
        Ropeloft x = withYarns(1);
        x.cut(0, 7);
        return x.lineOf(0, LENGTH);
    }

    private static void toldKindsAndHands() {
        says(10, "0 YARN to CABLE, 1 its hand");
        Ropeloft x = new Ropeloft();
        int cable = cable(x, Ropeloft.S, 1000);
        due("a yarn", x.lineOf(0, KIND), Ropeloft.YARN);
        due("a strand", x.lineOf(3, KIND), Ropeloft.STRAND);
        due("a rope", x.lineOf(12, KIND), Ropeloft.ROPE);
        due("a cable", x.lineOf(cable, KIND), Ropeloft.CABLE);
        due("Z", x.lineOf(0, HAND), Ropeloft.Z);
        due("S", x.lineOf(3, HAND), Ropeloft.S);
        due("Z", x.lineOf(12, HAND), Ropeloft.Z);
        due("S", x.lineOf(cable, HAND), Ropeloft.S);
        due("torque below 0", x.lineOf(cable, TORQUE), -54);
        due("27 yarns weigh", x.lineOf(cable, WEIGHT), 27);
        says(TERMS, "each is a YARN, a STRAND, a ROPE or a CABLE, of a hand, S or Z");
        due("a cable is balanced with a torque of -54", x.lineOf(cable, BALANCED), 1);
        due("and can be cut", x.cut(cable, 1), 40);
    }

    private static void toldStates() {
        says(TERMS, "A line is WHOLE, USED (in another one), BROKEN or RETIRED");
        Ropeloft x = new Ropeloft();
        due("whole", x.lineOf(yarn(x, Ropeloft.S, 50), STATE), Ropeloft.WHOLE);
        strand(x, Ropeloft.S, 50, 12);
        due("used", x.lineOf(1, STATE), Ropeloft.USED);
        due("broken", x.lineOf(broken(x), STATE), Ropeloft.BROKEN);
        due("retired", x.lineOf(retired(x), STATE), Ropeloft.RETIRED);
        says(10, "7 WHOLE to RETIRED, 8 what it can bear now, 9 whether it is balanced, 1 or 0");
        due("what a broken one could bear", x.lineOf(5, BEARS), 80);
        due("what a retired one could bear", x.lineOf(6, BEARS), 56);
        due("what a used one could bear", x.lineOf(1, BEARS), 80);
        due("whether a broken yarn is balanced", x.lineOf(5, BALANCED), 0);
        due("whether a strand is balanced", x.lineOf(4, BALANCED), 1);
        due("whether a yarn of twist 2 is balanced", x.lineOf(x.spin(0, 2, Ropeloft.S, 5), BALANCED), 1);
    }

    private static void lineOfEdges() {
        says(10, "`line`: its number");
        indexEdges(0, 4, line -> withYarns(5).lineOf(line, 0));
        indexEdges(0, 59, line -> withYarns(60).lineOf(line, 9));
        says(10, "`what`: 0 YARN to CABLE");
        argumentEdges(0, 9, what -> withYarns(1).lineOf(0, what));
    }

    private static void lineOfRefuses() {
        says(10, "Throws `IndexOutOfBoundsException` if there is no such line");
        Ropeloft x = withYarns(3);
        index("line -1", () -> x.lineOf(-1, 0));
        index("line 3", () -> x.lineOf(3, 0));
        index("line 3, wrong what", () -> x.lineOf(3, 10));
        index("line -1, wrong what", () -> x.lineOf(-1, -1));
        says(10, "Throws `IllegalArgumentException` if what is out of range");
        argument("what -1", () -> x.lineOf(0, -1));
        argument("what 10", () -> x.lineOf(2, 10));
    }

    // ---- yarns

    private static void yarnsInLaidLines() {
        says(11, "Returns how many; 1 for a YARN.");
        Ropeloft x = new Ropeloft();
        int cable = cable(x, Ropeloft.S, 1000);
        due("a yarn", x.yarns(0), 1);
        due("the last yarn", x.yarns(36), 1);
        says(11, "Returns how many yarns are in a line, found by following it into what it was laid");
        due("a strand", x.yarns(3), 3);
        due("a rope", x.yarns(12), 9);
        due("a cable", x.yarns(cable), 27);
    }

    private static void yarnsInCutLines() {
        says(11, "laid, cut and spliced of");
        Ropeloft x = new Ropeloft();
        strand(x, Ropeloft.S, 1000, 12);
        for (int line = 3; line < 59; line++) {
            x.cut(line, x.lineOf(line, LENGTH) - 1);
        }
        due("a piece of pieces, 56 deep", x.yarns(59), 3);
        Ropeloft y = new Ropeloft();
        int cable = cable(y, Ropeloft.S, 1000);
        int piece = y.cut(cable, y.lineOf(cable, LENGTH));
        due("all of a cable", y.yarns(piece), 27);
        due("the cable, cut up", y.yarns(cable), 27);
        int ordered = y.order(Ropeloft.CABLE, 5);
        due("an order", y.yarns(ordered), 27);
        due("a splice of pieces", y.yarns(y.splice(piece, ordered, 2)), 27);
        due("a piece of a splice", y.yarns(y.order(Ropeloft.CABLE, 5)), 27);
    }

    private static void yarnsInSplicedLines() {
        says(11, "in a splice those of its first line");
        Ropeloft x = new Ropeloft();
        int yarn = x.splice(yarn(x, Ropeloft.S, 50), yarn(x, Ropeloft.S, 50), 2);
        due("a spliced yarn", x.yarns(yarn), 1);
        int twice = x.splice(yarn, yarn(x, Ropeloft.S, 50), 2);
        due("a yarn that was spliced twice", x.yarns(twice), 1);
        int strand = x.lay(twice, x.cut(twice, 50), yarn(x, Ropeloft.S, 50), 12);
        due("a strand of spliced and cut yarns", x.yarns(strand), 3);
        int other = strand(x, Ropeloft.Z, 50, 12);
        due("a spliced strand", x.yarns(x.splice(other, strand, 2)), 3);
    }

    private static void yarnsEdges() {
        says(11, "`line`: its number");
        indexEdges(0, 4, line -> withYarns(5).yarns(line));
        indexEdges(0, 59, line -> withYarns(60).yarns(line));
        says(11, "Throws `IndexOutOfBoundsException` if there is no such line");
        Ropeloft x = new Ropeloft();
        index("no line at all", () -> x.yarns(0));
        index("line -1", () -> x.yarns(-1));
    }
}
