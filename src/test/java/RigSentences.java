/** The sentences about rigs and wraps. */
final class RigSentences extends Sentences {
    private RigSentences() {
    }

    static void run() {
        rigsAreNumbered();
        rigEdges();
        rigRefuses();
        parts();
        leastPull();
        pullEdges();
        whetherItMay();
        lineOfTheRig();
        lifting();
        liftEdges();
        series();
        seriesThatMayNot();
        seriesWithoutLoad();
        seriesEdges();
        wraps();
        shakes();
        mostForce();
        holdsEdges();
    }

    /** A rig, of number 0, whose line bears so much. */
    private static Ropeloft withRig(int strength, int parts, int friction) {
        Ropeloft x = new Ropeloft();
        x.rig(yarnThatBears(x, strength), parts, friction);
        return x;
    }

    private static void rigsAreNumbered() {
        says(TERMS, "Rigs are numbered from 0, at most 12");
        Ropeloft x = withYarns(1);
        for (int rig = 0; rig < 12; rig++) {
            due("number", x.rig(0, 1 + rig % 6, 0), rig);
        }
        state("a 13th", () -> x.rig(0, 1, 0));
        for (int rig = 0; rig < 12; rig++) {
            int parts = 1 + rig % 6;
            due("each has its parts", x.pull(rig, 60), 60 / parts);
        }
        says(TERMS, "a line can be in several rigs");
        due("all 12 lift with one line", bit(x.lift(0, 8)) + bit(x.lift(11, 8)), 2);
        due("and wear it", x.lineOf(0, DAMAGE), 1);
        says(12, "Makes a rig.");
        Ropeloft y = withYarns(2);
        y.rig(1, 3, 10);
        due("of 3 parts and friction 10", y.pull(0, 50), 19);
        due("of line 1", bit(y.lift(0, 40)), 1);
        due("which is worn by a pull of 16", y.lineOf(1, DAMAGE), 4);
        due("and not line 0", y.lineOf(0, DAMAGE), 0);
        says(12, "Returns its number.");
        due("the next one", y.rig(0, 1, 0), 1);
    }

    private static void rigEdges() {
        says(12, "`line`: a line");
        indexEdges(0, 4, line -> withYarns(5).rig(line, 1, 0));
        says(12, "`parts`: 1 to 6");
        argumentEdges(1, 6, parts -> withYarns(1).rig(0, parts, 0));
        says(12, "`friction`: 0 to 50");
        argumentEdges(0, 50, friction -> withYarns(1).rig(0, 1, friction));
        says(TERMS, "rove through blocks with 1 to 6 parts and a friction, 0 to 50 hundredths");
        due("1 part, friction 0", withRig(80, 1, 0).pull(0, 100), 100);
        due("1 part, friction 50", withRig(80, 1, 50).pull(0, 100), 100);
        due("6 parts, friction 0", withRig(80, 6, 0).pull(0, 100), 17);
        due("6 parts, friction 50", withRig(80, 6, 50).pull(0, 100), 52);
    }

    private static void rigRefuses() {
        says(12, "Throws `IndexOutOfBoundsException` if there is no such line");
        Ropeloft x = new Ropeloft();
        index("no line at all", () -> x.rig(0, 1, 0));
        int broken = broken(x);
        index("line -1", () -> x.rig(-1, 1, 0));
        index("line 1, wrong parts and friction", () -> x.rig(1, 0, 51));
        says(12, "Throws `IllegalArgumentException` if parts or friction is out of range");
        argument("parts 0", () -> x.rig(broken, 0, 0));
        argument("parts 7", () -> x.rig(broken, 7, 0));
        argument("friction -1", () -> x.rig(broken, 1, -1));
        argument("friction 51", () -> x.rig(broken, 1, 51));
        says(12, "Throws `IllegalStateException` if the line is not WHOLE, or not balanced, being no YARN");
        state("broken", () -> x.rig(broken, 1, 0));
        int retired = retired(x);
        state("retired", () -> x.rig(retired, 1, 0));
        int loose = strandOfTorque(x, 50, 7);
        state("laid", () -> x.rig(loose - 1, 1, 0));
        state("not balanced", () -> x.rig(loose, 1, 0));
        int cutUp = yarn(x, Ropeloft.S, 5);
        x.cut(cutUp, 5);
        state("cut up", () -> x.rig(cutUp, 1, 0));
        index("none was made", () -> x.pull(0, 0));
        due("balanced", x.rig(strandOfTorque(x, 50, -6), 1, 0), 0);
        due("a yarn of much twist", x.rig(x.spin(0, 30, Ropeloft.S, 5), 1, 0), 1);
        says(12, "or there are 12 rigs");
        Ropeloft y = withYarns(1);
        for (int rig = 0; rig < 11; rig++) {
            y.rig(0, 1, 0);
        }
        due("the 12th", y.rig(0, 1, 0), 11);
        state("a 13th", () -> y.rig(0, 1, 0));
        argument("a 13th, parts 7", () -> y.rig(0, 7, 0));
        argument("a 13th, friction 51", () -> y.rig(0, 1, 51));
        index("a 13th, line 1", () -> y.rig(1, 1, 0));
        index("there is no 13th", () -> y.pull(12, 0));
    }

    // ---- to pull

    private static void parts() {
        says(TERMS, "the first part carries what is pulled, each next one that of the one ahead times 100 less the");
        due("19, 17 and 15 carry 51", withRig(80, 3, 10).pull(0, 51), 19);
        due("20, 18 and 16 carry 54", withRig(80, 3, 10).pull(0, 52), 20);
        due("32, 16, 8, 4, 2 and 1 carry 63", withRig(80, 6, 50).pull(0, 63), 32);
        due("33, 16, 8, 4, 2 and 1 carry 64", withRig(80, 6, 50).pull(0, 64), 33);
        due("1, 0, 0, 0, 0 and 0 carry 1", withRig(80, 6, 1).pull(0, 1), 1);
        due("2, 1, 0, 0, 0 and 0 carry 3", withRig(80, 6, 1).pull(0, 2), 2);
        due("100, 99, 98, 97, 96 and 95 carry 585", withRig(80, 6, 1).pull(0, 585), 100);
    }

    private static void leastPull() {
        says(TERMS, "The pull for a load is the least one with which they carry at least so much.");
        due("7 and 3 carry 10", withRig(80, 2, 50).pull(0, 10), 7);
        due("8 and 4 carry 11 too", withRig(80, 2, 50).pull(0, 11), 8);
        due("8 and 4 carry 12", withRig(80, 2, 50).pull(0, 12), 8);
        due("9 and 4 carry 13", withRig(80, 2, 50).pull(0, 13), 9);
        says(13, "Returns the pull for a load.");
        due("of six parts, just shared", withRig(80, 6, 0).pull(0, 999996), 166666);
        due("of six parts, one more", withRig(80, 6, 0).pull(0, 999997), 166667);
        says(13, "Returns the pull.");
        Ropeloft x = withRig(80, 2, 50);
        x.load(0, 81);
        due("whatever became of the line", x.pull(0, 10), 7);
    }

    private static void pullEdges() {
        says(13, "`rig`: its number");
        indexEdges(0, 0, rig -> withRig(80, 1, 0).pull(rig, 5));
        indexEdges(0, 11, rig -> withTwelveRigs().pull(rig, 5));
        says(13, "`load`: 0 to 1000000");
        argumentEdges(0, 1000000, load -> withRig(80, 2, 0).pull(0, load));
        for (int parts = 1; parts <= 6; parts++) {
            due("no load", withRig(80, parts, 50).pull(0, 0), 0);
        }
        due("the most, 1 part", withRig(80, 1, 50).pull(0, 1000000), 1000000);
        due("the most, 2 parts", withRig(80, 2, 0).pull(0, 1000000), 500000);
        due("the most, 6 parts", withRig(80, 6, 0).pull(0, 1000000), 166667);
        due("the most, 2 parts with friction", withRig(80, 2, 50).pull(0, 1000000), 666667);
        says(13, "Throws `IndexOutOfBoundsException` if there is no such rig");
        Ropeloft x = withRig(80, 1, 0);
        index("rig -1", () -> x.pull(-1, 0));
        index("rig 1, wrong load", () -> x.pull(1, -1));
        says(13, "Throws `IllegalArgumentException` if load is out of range");
        argument("load -1", () -> x.pull(0, -1));
        argument("load 1000001", () -> x.pull(0, 1000001));
    }

    private static Ropeloft withTwelveRigs() {
        Ropeloft x = withYarns(1);
        for (int rig = 0; rig < 12; rig++) {
            x.rig(0, 1, 0);
        }
        return x;
    }

    // ---- to lift

    private static void whetherItMay() {
        says(TERMS, "and the pull is at most its safe load");
        due("17 of 80", bit(withRig(80, 1, 0).lift(0, 17)), 0);
        due("16 of 80", bit(withRig(80, 1, 0).lift(0, 16)), 1);
        due("16 of 84", bit(withRig(84, 1, 0).lift(0, 16)), 1);
        due("17 of 84", bit(withRig(84, 1, 0).lift(0, 17)), 0);
        due("1 of 5", bit(withRig(5, 1, 0).lift(0, 1)), 1);
        due("1 of 4", bit(withRig(4, 1, 0).lift(0, 1)), 0);
        due("two parts: a pull of 16", bit(withRig(80, 2, 50).lift(0, 24)), 1);
        due("two parts: a pull of 17", bit(withRig(80, 2, 50).lift(0, 25)), 0);
        Ropeloft x = withRig(80, 1, 0);
        x.sun(10);
        due("16 of 79, by now", bit(x.lift(0, 16)), 0);
        due("15 of 79, by now", bit(x.lift(0, 15)), 1);
        says(14, "Returns whether it may; it is not lifted otherwise.");
        Ropeloft y = withRig(80, 1, 0);
        due("more than its safe load", bit(y.lift(0, 17)), 0);
        due("more than it bears", bit(y.lift(0, 1000000)), 0);
        due("no damage", y.lineOf(0, DAMAGE), 0);
        due("it is whole", y.lineOf(0, STATE), Ropeloft.WHOLE);
    }

    private static void liftsNothing(String what, Ropeloft x, int line) {
        int damage = x.lineOf(line, DAMAGE);
        int state = x.lineOf(line, STATE);
        due(what, bit(x.lift(0, 1)), 0);
        due(what + ", damage", x.lineOf(line, DAMAGE), damage);
        due(what + ", how it is", x.lineOf(line, STATE), state);
    }

    private static void lineOfTheRig() {
        says(TERMS, "A rig may lift a load, if its line is WHOLE");
        Ropeloft x = withRig(80, 1, 0);
        x.load(0, 81);
        liftsNothing("a broken line", x, 0);
        Ropeloft y = withRig(80, 1, 0);
        for (int i = 0; i < 3; i++) {
            y.sun(1000);
        }
        liftsNothing("a retired line", y, 0);
        Ropeloft z = withRig(80, 1, 0);
        z.cut(0, 10);
        liftsNothing("a line that was cut up", z, 0);
        Ropeloft v = withRig(80, 1, 0);
        v.splice(0, yarn(v, Ropeloft.S, 10), 2);
        liftsNothing("a spliced line", v, 0);
        Ropeloft w = withRig(80, 1, 0);
        w.lay(yarn(w, Ropeloft.S, 10), yarn(w, Ropeloft.S, 10), 0, 5);
        liftsNothing("a laid line", w, 0);
        Ropeloft u = withRig(80, 1, 0);
        u.cut(0, 9);
        due("a line that was cut, but for 1", bit(u.lift(0, 1)), 1);
    }

    private static void lifting() {
        says(TERMS, "To lift is to load its line with the pull.");
        Ropeloft x = withRig(80, 2, 50);
        due("a pull of 16", bit(x.lift(0, 24)), 1);
        due("2 squared, not 3", x.lineOf(0, DAMAGE), 4);
        due("a pull of 7", bit(x.lift(0, 10)), 1);
        due("0 squared", x.lineOf(0, DAMAGE), 4);
        says(14, "Lifts a load.");
        Ropeloft y = new Ropeloft();
        yarn(y, Ropeloft.S, 10);
        y.rig(0, 1, 0);
        y.sun(1000);
        y.sun(1000);
        y.sun(990);
        due("11 of 56, with 299", bit(y.lift(0, 11)), 1);
        due("by which it retires", y.lineOf(0, STATE), Ropeloft.RETIRED);
        due("with 300", y.lineOf(0, DAMAGE), 300);
        due("so that it lifts no more", bit(y.lift(0, 1)), 0);
    }

    private static void liftEdges() {
        says(14, "`rig`: its number");
        indexEdges(0, 11, rig -> bit(withTwelveRigs().lift(rig, 5)));
        says(14, "`load`: 1 to 1000000");
        argumentEdges(1, 1000000, load -> bit(withRig(80, 2, 0).lift(0, load)));
        says(14, "Throws `IndexOutOfBoundsException` if there is no such rig");
        Ropeloft x = withRig(80, 1, 0);
        index("rig -1", () -> bit(x.lift(-1, 5)));
        index("rig 1, wrong load", () -> bit(x.lift(1, 0)));
        says(14, "Throws `IllegalArgumentException` if load is out of range");
        argument("load 0", () -> bit(x.lift(0, 0)));
        argument("load 1000001", () -> bit(x.lift(0, 1000001)));
        x.load(0, 81);
        argument("load 0 of a broken line", () -> bit(x.lift(0, 0)));
    }

    // ---- in series

    /** Rig 0: two parts, friction 50, of 80; rig 1: three parts, friction 10, of 952; rig 2: one part of 80. */
    private static Ropeloft withThreeRigs() {
        Ropeloft x = new Ropeloft();
        x.rig(yarnThatBears(x, 80), 2, 50);
        x.rig(yarnThatBears(x, 952), 3, 10);
        x.rig(0, 1, 0);
        return x;
    }

    private static void series() {
        says(TERMS, "In series the load of the first rig is the pull of the second one, which has the load.");
        Ropeloft x = withThreeRigs();
        due("16 on the second, and by that 7 on the first", x.series(1, 2, 16), 7);
        due("19 on the second, and by that 13 on the first", x.series(0, 1, 50), 13);
        due("11 on the second, and by that 11 on the first", x.series(2, 0, 16), 11);
        says(15, "Returns what one pulls on the first of two rigs in series.");
        due("both of one line", x.series(0, 2, 16), 11);
        due("nothing is loaded", x.lineOf(0, DAMAGE), 0);
        due("nothing is loaded", x.lineOf(1, DAMAGE), 0);
    }

    private static void seriesThatMayNot() {
        says(15, "NONE if one of both may not lift what it has to");
        Ropeloft x = withThreeRigs();
        due("the first just may: 16", x.series(2, 1, 42), 16);
        due("the first may not: 17", x.series(2, 1, 45), Ropeloft.NONE);
        due("the second just may: 16", x.series(1, 2, 16), 7);
        due("the second may not: 17", x.series(1, 2, 17), Ropeloft.NONE);
        due("both may not", x.series(0, 2, 1000000), Ropeloft.NONE);
        due("nothing is loaded", x.lineOf(0, DAMAGE) + x.lineOf(1, DAMAGE), 0);
        x.load(0, 81);
        due("the line of the first is broken", x.series(0, 1, 1), Ropeloft.NONE);
        due("the line of the second is broken", x.series(1, 0, 1), Ropeloft.NONE);
        Ropeloft y = withThreeRigs();
        y.cut(1, 10);
        due("the line of the first is used", y.series(1, 0, 1), Ropeloft.NONE);
        due("the line of the second is used", y.series(0, 1, 1), Ropeloft.NONE);
        due("that of both others is whole", y.series(0, 2, 1), 1);
    }

    private static void seriesWithoutLoad() {
        says(15, "(0 always may, if the line is WHOLE)");
        Ropeloft x = new Ropeloft();
        x.rig(yarnThatBears(x, 1), 1, 0);
        x.rig(yarnThatBears(x, 80), 1, 0);
        due("0 with a safe load of 0, the first", x.series(0, 1, 0), 0);
        due("0 with a safe load of 0, the second", x.series(1, 0, 0), 0);
        due("1 with a safe load of 0, the first", x.series(0, 1, 1), Ropeloft.NONE);
        due("1 with a safe load of 0, the second", x.series(1, 0, 1), Ropeloft.NONE);
        x.load(0, 2);
        due("0 with a broken line, the first", x.series(0, 1, 0), Ropeloft.NONE);
        due("0 with a broken line, the second", x.series(1, 0, 0), Ropeloft.NONE);
    }

    private static void seriesEdges() {
        says(15, "`first`: a rig");
        indexEdges(0, 2, first -> withThreeRigs().series(first, 1, 5));
        says(15, "`second`: another one");
        indexEdges(0, 2, second -> withThreeRigs().series(1, second, 5));
        says(15, "`load`: 0 to 1000000");
        argumentEdges(0, 1000000, load -> withThreeRigs().series(0, 1, load));
        says(15, "Throws `IndexOutOfBoundsException` if there is no such rig, of both");
        Ropeloft x = withThreeRigs();
        index("the first", () -> x.series(3, 0, 5));
        index("the second", () -> x.series(0, -1, 5));
        index("the second, wrong load", () -> x.series(0, 3, -1));
        index("both, the same, wrong load", () -> x.series(3, 3, -1));
        says(15, "Throws `IllegalArgumentException` if both are the same, or load is out of range");
        argument("the same", () -> x.series(1, 1, 5));
        argument("the same, no load", () -> x.series(1, 1, 0));
        argument("load -1", () -> x.series(0, 1, -1));
        argument("load 1000001", () -> x.series(0, 1, 1000001));
        x.load(0, 81);
        argument("the same, broken", () -> x.series(0, 0, 5));
        argument("broken, load -1", () -> x.series(0, 1, -1));
    }

    // ---- wraps

    private static void wraps() {
        says(TERMS, "the tail, times 100 and the grip, together, divided by 100, once for each wrap");
        Ropeloft x = new Ropeloft();
        due("no wrap", x.holds(0, 100, 77, 0), 77);
        due("one wrap, 13.3", x.holds(1, 33, 10, 0), 13);
        due("two wraps, 13 and 17.29", x.holds(2, 33, 10, 0), 17);
        due("three wraps, 13, 17 and 22.61", x.holds(3, 33, 10, 0), 22);
        due("a grip that the tail never feels", x.holds(20, 1, 99, 0), 99);
        due("a grip that the tail just feels", x.holds(1, 1, 100, 0), 101);
        says(16, "Returns what wraps hold.");
        due("twice, 20 times", x.holds(20, 100, 1, 0), 1 << 20);
        due("nothing without a tail", x.holds(20, 100, 0, 0), 0);
        due("the tail without grip", x.holds(20, 0, 1000, 0), 1000);
    }

    private static void shakes() {
        says(TERMS, "of the tail a tenth, rounded down, is lost by each shake, ahead of that");
        Ropeloft x = new Ropeloft();
        due("of 10", x.holds(0, 0, 10, 1), 9);
        due("of 9 nothing", x.holds(0, 0, 9, 50), 9);
        due("of 19 just 1", x.holds(0, 0, 19, 1), 18);
        due("of 20 just 2", x.holds(0, 0, 20, 1), 18);
        due("of 1000 and of 900", x.holds(0, 0, 1000, 2), 810);
        due("ahead of the wraps, 14 and 21", x.holds(1, 50, 15, 1), 21);
        due("of nothing", x.holds(20, 100, 0, 50), 0);
    }

    private static void mostForce() {
        says(16, "Returns the force, at most 1000000000.");
        Ropeloft x = new Ropeloft();
        due("953 just below", x.holds(20, 100, 953, 0), 999292928L);
        due("954 just above", x.holds(20, 100, 954, 0), 1000000000L);
        due("1000 far above", x.holds(20, 100, 1000, 0), 1000000000L);
        due("1000 with 19 wraps", x.holds(19, 100, 1000, 0), 524288000L);
    }

    private static void holdsEdges() {
        says(16, "`wraps`: 0 to 20");
        argumentEdges(0, 20, wraps -> new Ropeloft().holds(wraps, 50, 100, 2));
        says(16, "`grip`: 0 to 100 hundredths");
        argumentEdges(0, 100, grip -> new Ropeloft().holds(5, grip, 100, 2));
        due("0", new Ropeloft().holds(1, 0, 100, 0), 100);
        due("100", new Ropeloft().holds(1, 100, 100, 0), 200);
        says(16, "`tail`: 0 to 1000");
        argumentEdges(0, 1000, tail -> new Ropeloft().holds(5, 50, tail, 2));
        says(16, "`shakes`: 0 to 50");
        argumentEdges(0, 50, shakes -> new Ropeloft().holds(5, 50, 100, shakes));
        due("fifty shakes", new Ropeloft().holds(0, 0, 1000, 50), 9);
        says(16, "Throws `IllegalArgumentException` if an argument is out of range");
        Ropeloft x = new Ropeloft();
        argument("wraps 21", () -> x.holds(21, 0, 0, 0));
        argument("grip 101", () -> x.holds(0, 101, 0, 0));
        argument("tail 1001", () -> x.holds(0, 0, 1001, 0));
        argument("shakes 51", () -> x.holds(0, 0, 0, 51));
        argument("all below 0", () -> x.holds(-1, -1, -1, -1));
    }
}
