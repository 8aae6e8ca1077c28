import support.Checks;

/** Each sentence of the document has a test of its own here; one that none names makes this test fail. */
final class SentencesTest extends Sentences {
    private SentencesTest() {
    }

    public static void main(String[] args) {
        LineSentences.run();
        WearSentences.run();
        RigSentences.run();
        BraidSentences.run();
        NetSentences.run();
        roundedDown();
        noSuchThing();
        otherArguments();
        statesAsTold();
        listedFirst();
        changesNothing();
        nameWhatNeedsNoTest();
        CHECKS.begin("the document");
        CHECKS.dueText("sentences that no test names", DOCUMENT.unnamed().toString(), "[]");
        CHECKS.end();
    }

    private static void roundedDown() {
        says(TERMS, "Divisions are rounded down.");
        Ropeloft x = new Ropeloft();
        x.fibre(1, 10, 100);
        due("9.7, and of 9 then 8.57", x.lineOf(x.spin(1, 13, Ropeloft.S, 99), STRENGTH), 8);
        yarn(x, Ropeloft.S, 99);
        yarn(x, Ropeloft.S, 99);
        due("84.15 of a length", x.lineOf(x.lay(0, 1, 2, 15), LENGTH), 84);
        due("142.8 of a strength", x.lineOf(3, STRENGTH), 142);
        int line = yarn(x, Ropeloft.S, 99);
        x.sun(19);
        due("1.9 by 19 days", x.lineOf(line, DAMAGE), 1);
        due("79.92 that it bears", x.lineOf(line, BEARS), 79);
        x.rig(line, 2, 50);
        due("a safe load of 15.8", bit(x.lift(0, 24)), 0);
        due("a pull of 7, by which the next part carries 3.5", x.pull(0, 11), 8);
        due("1.89 by a load of 15", x.load(line, 15), 2);
        due("63.2 of a splice", x.lineOf(x.splice(line, yarn(x, Ropeloft.S, 99), 2), STRENGTH), 63);
        due("13.3 and 17.29 by wraps", x.holds(2, 33, 10, 0), 17);
        due("1.9 by a shake", x.holds(0, 0, 19, 1), 18);
        due("1.5 less 0.75 meshes", x.join(3, 4, 1), 1);
        due("12.9 deep", x.depth(3, 5, 50), 12);
    }

    private static void noSuchThing() {
        says(TERMS, "IndexOutOfBoundsException: there is no such fibre, line, rig, place, net, knot or bar.");
        Ropeloft x = some();
        index("fibre", () -> x.spin(4, 12, Ropeloft.S, 5));
        index("line", () -> x.yarns(99));
        index("rig", () -> x.pull(1, 5));
        index("place", () -> x.cross(2, true));
        index("carrier", () -> x.over(0, 3));
        index("net", () -> x.twines(1));
        index("knot", () -> x.tear(0, 0, 1, true));
        index("bar", () -> x.tear(0, 0, 0, false));
    }

    private static void otherArguments() {
        says(TERMS, "IllegalArgumentException: another argument is out of range.");
        Ropeloft x = some();
        argument("fibre", () -> tell(x, 0, 0, 0));
        argument("spin", () -> x.spin(0, 0, 0, 0));
        argument("lay", () -> x.lay(0, 1, 2, 0));
        argument("cut", () -> x.cut(0, 0));
        argument("order", () -> x.order(-1, 1));
        argument("splice", () -> x.splice(0, 1, 0));
        argument("load", () -> x.load(0, 0));
        argument("sun", () -> x.sun(0));
        argument("lineOf", () -> x.lineOf(0, -1));
        argument("rig", () -> x.rig(0, 0, 0));
        argument("pull", () -> x.pull(0, -1));
        argument("lift", () -> bit(x.lift(0, 0)));
        argument("series", () -> x.series(0, 0, 0));
        argument("holds", () -> x.holds(0, 0, 0, -1));
        argument("braid", () -> x.braid(0));
        argument("over", () -> x.over(1, 1));
        argument("net", () -> x.net(0, 0));
        argument("hole", () -> x.hole(0, 0, 0, 0, -1));
        argument("mend", () -> x.mend(0, -1));
        argument("join", () -> x.join(0, 1, 0));
        argument("depth", () -> x.depth(0, 1, 1));
    }

    private static void statesAsTold() {
        says(TERMS, "IllegalStateException: as told.");
        Ropeloft x = full();
        state("spin", () -> x.spin(0, 12, 0, 5));
        state("lay", () -> x.lay(1, 2, 3, 5));
        state("cut", () -> x.cut(1, 1));
        state("order", () -> x.order(Ropeloft.YARN, 1));
        state("splice", () -> x.splice(1, 2, 2));
        state("load", () -> x.load(0, 1));
        state("rig", () -> x.rig(1, 1, 0));
        state("cross", () -> x.cross(0, true));
        state("net", () -> x.net(1, 1));
        state("tear", () -> x.tear(0, 0, 0, true));
    }

    /** Of 60 lines, the first of them broken, 12 rigs, 60 crossings, and 5 nets without a whole bar. */
    private static Ropeloft full() {
        Ropeloft x = withYarns(60);
        for (int rig = 0; rig < 12; rig++) {
            x.rig(1, 1, 0);
        }
        x.load(0, 81);
        for (int i = 0; i < 60; i++) {
            x.cross(i % 2, true);
        }
        for (int net = 0; net < 5; net++) {
            x.net(2, 2);
            x.hole(net, 0, 0, 2, 2);
        }
        return x;
    }

    private static void listedFirst() {
        says(TERMS, "If several exceptions of a throws clause apply, the one that is listed first is thrown.");
        Ropeloft x = full();
        allWrong(x);
        indexAndStateWrong(x);
        argumentAndStateWrong(x);
    }

    private static void allWrong(Ropeloft x) {
        index("fibre", () -> tell(x, 4, 0, 0));
        index("spin", () -> x.spin(4, 0, 2, 0));
        index("lay", () -> x.lay(0, 0, 60, 0));
        index("cut", () -> x.cut(60, 0));
        index("splice", () -> x.splice(60, 60, 0));
        index("load", () -> x.load(60, 0));
        index("lineOf", () -> x.lineOf(60, 10));
        index("rig", () -> x.rig(60, 0, 51));
        index("pull", () -> x.pull(12, -1));
        index("lift", () -> bit(x.lift(12, 0)));
        index("series", () -> x.series(12, 12, -1));
        index("over", () -> x.over(3, 3));
        index("hole", () -> x.hole(5, 1, 1, 0, 0));
        index("mend", () -> x.mend(5, -1));
    }

    private static void indexAndStateWrong(Ropeloft x) {
        index("spin", () -> x.spin(4, 12, Ropeloft.S, 5));
        index("lay", () -> x.lay(0, 1, 60, 5));
        index("cut", () -> x.cut(60, 1));
        index("splice", () -> x.splice(0, 60, 2));
        index("load", () -> x.load(60, 1));
        index("rig", () -> x.rig(60, 1, 0));
        index("cross", () -> x.cross(2, true));
        index("tear", () -> x.tear(0, 0, 1, true));
    }

    private static void argumentAndStateWrong(Ropeloft x) {
        argument("spin", () -> x.spin(0, 31, Ropeloft.S, 5));
        argument("lay", () -> x.lay(0, 0, 1, 5));
        argument("lay", () -> x.lay(0, 1, 2, 31));
        argument("cut", () -> x.cut(0, 8));
        argument("order", () -> x.order(Ropeloft.YARN, 0));
        argument("splice", () -> x.splice(0, 0, 2));
        argument("splice", () -> x.splice(0, 1, 7));
        argument("load", () -> x.load(0, 0));
        argument("rig", () -> x.rig(0, 7, 0));
        argument("rig", () -> x.rig(0, 1, 51));
        argument("net", () -> x.net(11, 1));
    }

    /** Two yarns, one of them worn, a strand that is not balanced, a rig, a crossing and a net with a torn bar. */
    private static Ropeloft some() {
        Ropeloft x = new Ropeloft();
        x.fibre(1, 50, 50);
        yarn(x, Ropeloft.S, 50);
        yarn(x, Ropeloft.S, 1);
        strandOfTorque(x, 50, 7);
        x.load(0, 40);
        x.rig(0, 2, 10);
        x.cross(0, true);
        x.net(2, 2);
        x.tear(0, 0, 0, true);
        return x;
    }

    /** All that can be told of such an object, the fibres and torn bars by what more calls answer. */
    private static String allOf(Ropeloft x) {
        StringBuilder told = new StringBuilder();
        for (int line = 0; line < 6; line++) {
            for (int what = 0; what < 10; what++) {
                told.append(x.lineOf(line, what)).append(' ');
            }
            told.append(x.yarns(line)).append(' ');
        }
        told.append(x.pull(0, 50)).append(x.lift(0, 5)).append(x.lineOf(0, DAMAGE)).append(' ');
        for (int place = 0; place < 3; place++) {
            told.append(x.carrier(place)).append(x.over(place, (place + 1) % 3)).append(' ');
        }
        told.append(x.orderOf()).append(x.orderAnew()).append(x.cross(1, true)).append(x.braid(3)).append(' ');
        told.append(x.twines(0)).append(x.twinesAnew(0)).append(x.tear(0, 1, 1, true)).append(x.mend(0, 9)).append(' ');
        for (int fibre = 0; fibre < 4; fibre++) {
            int line = x.spin(fibre, 12, Ropeloft.S, 5);
            told.append(line).append(' ').append(x.lineOf(line, STRENGTH)).append(' ');
        }
        return told.append(x.rig(0, 1, 0)).append(x.net(1, 1)).toString();
    }

    private interface Refused {
        long by(Ropeloft x);
    }

    private static void unchanged(String what, Class<? extends Throwable> thrown, Refused call) {
        Ropeloft x = some();
        CHECKS.dueThrow(what, thrown, () -> call.by(x));
        CHECKS.dueText("all behind " + what, allOf(x), allOf(some()));
    }

    private static void changesNothing() {
        says(TERMS, "A call that throws an exception changes nothing.");
        unchanged("fibre", Checks.ARGUMENT, x -> tell(x, 1, 500, 0));
        unchanged("fibre, strength", Checks.ARGUMENT, x -> tell(x, 1, 1001, 100));
        unchanged("spin", Checks.ARGUMENT, x -> x.spin(0, 12, Ropeloft.S, 0));
        unchanged("lay, twist", Checks.ARGUMENT, x -> x.lay(0, 1, 2, 31));
        unchanged("lay, used", Checks.STATE, x -> x.lay(0, 1, 2, 5));
        unchanged("lay, no such line", Checks.INDEX, x -> x.lay(0, 1, 6, 5));
        unchanged("cut", Checks.ARGUMENT, x -> x.cut(0, 51));
        unchanged("cut, not balanced", Checks.STATE, x -> x.cut(5, 1));
        unchanged("order", Checks.ARGUMENT, x -> x.order(Ropeloft.YARN, 0));
        unchanged("splice", Checks.ARGUMENT, x -> x.splice(0, 1, 7));
        unchanged("splice, kinds", Checks.STATE, x -> x.splice(0, 5, 2));
        unchanged("load", Checks.ARGUMENT, x -> x.load(0, 1000001));
        unchanged("load, not balanced", Checks.STATE, x -> x.load(5, 1000000));
        unchanged("sun", Checks.ARGUMENT, x -> x.sun(1001));
        unchanged("lineOf", Checks.ARGUMENT, x -> x.lineOf(0, 10));
        unchanged("rig", Checks.ARGUMENT, x -> x.rig(0, 1, 51));
        unchanged("rig, not balanced", Checks.STATE, x -> x.rig(5, 1, 0));
        unchanged("pull", Checks.ARGUMENT, x -> x.pull(0, -1));
        unchanged("lift", Checks.ARGUMENT, x -> bit(x.lift(0, 1000001)));
        unchanged("series", Checks.ARGUMENT, x -> x.series(0, 0, 5));
        unchanged("braid", Checks.ARGUMENT, x -> x.braid(9));
        unchanged("cross", Checks.INDEX, x -> x.cross(2, true));
        unchanged("over", Checks.ARGUMENT, x -> x.over(0, 0));
        unchanged("net", Checks.ARGUMENT, x -> x.net(1, 11));
        unchanged("tear", Checks.INDEX, x -> x.tear(0, 0, 1, true));
        unchanged("tear, torn", Checks.STATE, x -> x.tear(0, 0, 0, true));
        unchanged("hole", Checks.ARGUMENT, x -> x.hole(0, 0, 0, 2, 11));
        unchanged("mend", Checks.ARGUMENT, x -> x.mend(0, 201));
    }

    /** Headings, and sentences that tell what the document is about, or what is free. */
    private static void nameWhatNeedsNoTest() {
        String[] free = {"A ropewalk and net loft", "An object is used for at most 512 calls", "Calls are what a rope",
            "Yarns, lines", "Rigs, wraps", "Ahead of the calls", "How the state is held",
            "Use of one object from several threads", "Nothing is promised beyond"};
        for (String words : free) {
            DOCUMENT.name(TERMS, words);
        }
    }
}
