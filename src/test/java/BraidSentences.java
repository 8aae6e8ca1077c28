/** The sentences about the braid. */
final class BraidSentences extends Sentences {
    private BraidSentences() {
    }

    static void run() {
        begunBraid();
        carriersAtFirst();
        crossingsBefore();
        crossedPlaces();
        crossEdges();
        fullPattern();
        carrierEdges();
        orders();
        ordersOfMany();
        orderAnew();
        overAndUnder();
        overEdges();
    }

    private static Ropeloft braided(int carriers, int... places) {
        Ropeloft x = new Ropeloft();
        x.braid(carriers);
        for (int place : places) {
            x.cross(place, true);
        }
        return x;
    }

    private static void carriers(String what, Ropeloft x, int... due) {
        for (int place = 0; place < due.length; place++) {
            due(what + ", place " + place, x.carrier(place), due[place]);
        }
        index(what + ", no more places", () -> x.carrier(due.length));
    }

    private static void begunBraid() {
        says(17, "Begins a braid, without crossings.");
        Ropeloft x = braided(4, 0, 1, 2, 0);
        x.braid(4);
        carriers("all are at first places", x, 0, 1, 2, 3);
        due("never over", x.over(0, 1), 0);
        due("order", x.orderOf(), 1);
        due("order anew", x.orderAnew(), 1);
        due("the first crossing", x.cross(0, true), 1);
        says(17, "`carriers`: 3 to 8");
        argumentEdges(3, 8, carriers -> new Ropeloft().braid(carriers));
        says(17, "Throws `IllegalArgumentException` if carriers is out of range");
        argument("2 carriers", () -> x.braid(2));
        argument("9 carriers", () -> x.braid(9));
        carriers("the braid stays", x, 1, 0, 2, 3);
        due("with its crossing", x.over(0, 1), 1);
    }

    private static void carriersAtFirst() {
        says(TERMS, "The braid has 3 to 8 carriers, 3 at first, each first at the place with its number");
        carriers("a new object", new Ropeloft(), 0, 1, 2);
        carriers("3", braided(3), 0, 1, 2);
        carriers("8", braided(8), 0, 1, 2, 3, 4, 5, 6, 7);
        Ropeloft x = braided(8, 6, 5, 4, 3, 2, 1, 0);
        x.braid(3);
        carriers("3 behind 8", x, 0, 1, 2);
        x.braid(8);
        carriers("8 behind 3", x, 0, 1, 2, 3, 4, 5, 6, 7);
    }

    private static void crossingsBefore() {
        says(17, "Returns how many crossings that before had.");
        Ropeloft x = new Ropeloft();
        due("a new object", x.braid(5), 0);
        x.cross(0, true);
        x.cross(0, false);
        due("two", x.braid(5), 2);
        due("none", x.braid(3), 0);
        for (int i = 0; i < 60; i++) {
            x.cross(1, true);
        }
        due("all 60", x.braid(4), 60);
    }

    private static void crossedPlaces() {
        says(TERMS, "in a crossing the carriers at a place and the next one change places");
        carriers("0", braided(3, 0), 1, 0, 2);
        carriers("1", braided(3, 1), 0, 2, 1);
        carriers("0 and 1", braided(3, 0, 1), 1, 2, 0);
        carriers("6 of 8", braided(8, 6), 0, 1, 2, 3, 4, 5, 7, 6);
        says(18, "Braids a crossing.");
        carriers("all along", braided(8, 0, 1, 2, 3, 4, 5, 6), 1, 2, 3, 4, 5, 6, 7, 0);
        carriers("twice the same", braided(3, 1, 1), 0, 1, 2);
        says(18, "Returns how many crossings there are.");
        Ropeloft x = new Ropeloft();
        due("one", x.cross(1, true), 1);
        due("two", x.cross(1, false), 2);
        due("three", x.cross(0, false), 3);
    }

    private static void crossEdges() {
        says(18, "`place`: 0 to how many carriers there are less 2: the left one");
        for (int carriers = 3; carriers <= 8; carriers++) {
            int all = carriers;
            indexEdges(0, all - 2, place -> braided(all).cross(place, true));
        }
        says(18, "Throws `IndexOutOfBoundsException` if there is no such place");
        Ropeloft x = braided(4);
        index("the last place has no next one", () -> x.cross(3, true));
        index("place 4", () -> x.cross(4, false));
        index("place -1", () -> x.cross(-1, true));
        carriers("nothing changed", x, 0, 1, 2, 3);
        due("no crossing", x.cross(2, true), 1);
        Ropeloft y = braided(8);
        y.braid(3);
        index("a place of the braid before", () -> y.cross(2, true));
    }

    private static void fullPattern() {
        says(TERMS, "The pattern are the crossings so far, at most 60.");
        Ropeloft x = new Ropeloft();
        for (int i = 1; i <= 60; i++) {
            due("crossing", x.cross(i % 2, i % 3 == 0), i);
        }
        carriers("60 of them", x, 0, 1, 2);
        due("order", x.orderOf(), x.orderAnew());
        says(18, "Throws `IllegalStateException` if there are 60");
        state("a 61st", () -> x.cross(0, true));
        index("a 61st at no place", () -> x.cross(2, true));
        carriers("nothing changed", x, 0, 1, 2);
        due("still 60", x.braid(4), 60);
        due("a new braid has room", x.cross(2, false), 1);
        Ropeloft y = new Ropeloft();
        for (int i = 0; i < 59; i++) {
            y.cross(0, true);
        }
        due("the 60th", y.cross(1, true), 60);
        carriers("the 60th counts", y, 1, 2, 0);
        due("in the order too", y.orderOf(), 3);
        due("and in the order anew", y.orderAnew(), 3);
    }

    private static void carrierEdges() {
        says(19, "Returns the carrier at a place now.");
        Ropeloft x = braided(4);
        carriers("at first", x, 0, 1, 2, 3);
        x.cross(2, true);
        carriers("now", x, 0, 1, 3, 2);
        says(19, "Returns the carrier.");
        carriers("all along", braided(4, 0, 1, 2), 1, 2, 3, 0);
        says(19, "`place`: 0 to how many carriers there are less 1");
        for (int carriers = 3; carriers <= 8; carriers++) {
            int all = carriers;
            indexEdges(0, all - 1, place -> braided(all).carrier(place));
        }
        says(19, "Throws `IndexOutOfBoundsException` if there is no such place");
        index("place -1", () -> x.carrier(-1));
        index("place 4", () -> x.carrier(4));
        x.braid(3);
        index("a place of the braid before", () -> x.carrier(3));
    }

    private static void order(int want, int carriers, int... places) {
        Ropeloft x = braided(carriers, places);
        due("order", x.orderOf(), want);
        due("order anew", x.orderAnew(), want);
        due("asking changes nothing", x.braid(3), places.length);
    }

    private static void orders() {
        says(TERMS, "The order of the pattern is how often it has to be braided until each carrier is at its first");
        order(2, 3, 0);
        order(3, 3, 0, 1);
        order(3, 3, 1, 0);
        order(2, 3, 0, 1, 0);
        order(2, 4, 0, 2);
        order(4, 4, 0, 1, 2);
        says(TERMS, "until each carrier is at its first place again, 1 at least");
        order(1, 3);
        order(1, 8);
        order(1, 3, 0, 0);
        order(1, 3, 0, 1, 0, 1, 0, 1);
    }

    private static void ordersOfMany() {
        says(20, "Returns the order of the pattern.");
        order(5, 5, 0, 1, 2, 3);
        order(6, 5, 0, 2, 3);
        order(6, 6, 0, 1, 2, 3, 4);
        order(6, 6, 0, 1, 4);
        order(4, 6, 0, 2, 3, 4);
        order(7, 7, 0, 1, 2, 3, 4, 5);
        order(10, 7, 0, 2, 3, 4, 5);
        order(12, 7, 0, 1, 3, 4, 5);
        order(15, 8, 0, 1, 3, 4, 5, 6);
        order(4, 8, 0, 1, 2, 4, 5, 6);
        order(8, 8, 0, 1, 2, 3, 4, 5, 6);
        order(2, 8, 0, 2, 4, 6);
        order(6, 8, 0, 2, 3, 5, 6);
    }

    private static void orderAnew() {
        says(21, "Returns the same, by braiding it again and again.");
        Ropeloft x = braided(8, 0, 1, 3, 4, 5, 6);
        due("anew", x.orderAnew(), 15);
        due("and anew", x.orderAnew(), 15);
        carriers("moves no carrier", x, 1, 2, 0, 4, 5, 6, 7, 3);
        due("nor tells of more crossings", x.over(0, 1), 1);
        due("nor adds some", x.cross(2, true), 7);
    }

    private static void overAndUnder() {
        says(TERMS, "the left one going over, or under");
        Ropeloft x = new Ropeloft();
        x.cross(0, true);
        due("the left one went over", x.over(0, 1), 1);
        due("so the right one under", x.over(1, 0), -1);
        x.cross(1, false);
        due("the left one, 0, went under", x.over(0, 2), -1);
        due("so the right one over", x.over(2, 0), 1);
        due("others never met", x.over(1, 2), 0);
        says(18, "`isOver`: whether the left one goes over");
        Ropeloft y = new Ropeloft();
        y.cross(0, true);
        y.cross(0, true);
        due("once each over the other one", y.over(0, 1), 0);
        y.cross(0, true);
        y.cross(0, false);
        due("over, then not under", y.over(0, 1), 2);
        says(22, "Returns how often a carrier went over another one, less how often it went under it.");
        due("the other way round", y.over(1, 0), -2);
        y.cross(1, false);
        due("the carriers count, not the places", y.over(1, 2), -1);
        says(22, "Returns the difference.");
        Ropeloft z = new Ropeloft();
        for (int i = 0; i < 60; i++) {
            z.cross(0, i % 2 == 0);
        }
        due("60 times over", z.over(0, 1), 60);
        due("60 times under", z.over(1, 0), -60);
        z.braid(3);
        due("a new braid has none", z.over(0, 1), 0);
    }

    private static void overEdges() {
        says(22, "`carrier`: its number");
        for (int carriers = 3; carriers <= 8; carriers++) {
            int all = carriers;
            indexEdges(0, all - 1, carrier -> braided(all).over(carrier, 1));
        }
        says(22, "`other`: another one");
        for (int carriers = 3; carriers <= 8; carriers++) {
            int all = carriers;
            indexEdges(0, all - 1, other -> braided(all).over(1, other));
        }
        says(22, "Throws `IndexOutOfBoundsException` if there is no such carrier, of both");
        Ropeloft x = braided(4, 0);
        index("the first", () -> x.over(-1, 0));
        index("the second", () -> x.over(0, 4));
        index("both", () -> x.over(4, -1));
        index("both, the same", () -> x.over(4, 4));
        says(22, "Throws `IllegalArgumentException` if both are the same");
        for (int carrier = 0; carrier < 4; carrier++) {
            int same = carrier;
            argument("the same", () -> x.over(same, same));
        }
        Ropeloft y = braided(8, 6);
        due("the last two of 8", y.over(6, 7), 1);
        due("and the other way", y.over(7, 6), -1);
    }
}
