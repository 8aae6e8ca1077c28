/** The sentences about nets, their twines, joined edges and hung depths. */
final class NetSentences extends Sentences {
    private NetSentences() {
    }

    static void run() {
        netsAreNumbered();
        netEdges();
        knotsAndBars();
        tornBars();
        tearEdges();
        tearRefuses();
        holes();
        holesLargerThanTheNet();
        holeEdges();
        holeRefuses();
        twineAlongBars();
        fewestTwines();
        twinesOfRings();
        ringsBesideATwine();
        ringsThatRingsTouch();
        netAfterNet();
        twinesOfWholeNets();
        twinesEdges();
        mends();
        mendEdges();
        joins();
        joinEdges();
        depths();
        depthEdges();
    }

    private static Ropeloft withNet(int rows, int columns) {
        Ropeloft x = new Ropeloft();
        x.net(rows, columns);
        return x;
    }

    private static Ropeloft withFiveNets() {
        Ropeloft x = new Ropeloft();
        for (int net = 0; net < 5; net++) {
            x.net(10, 10);
        }
        return x;
    }

    // ---- to knot

    private static void netsAreNumbered() {
        says(TERMS, "Nets are numbered from 0, at most 5, with 1 to 10 rows and columns");
        Ropeloft x = new Ropeloft();
        for (int net = 0; net < 5; net++) {
            due("number", x.net(net + 1, 10 - net), net);
        }
        for (int net = 0; net < 5; net++) {
            due("each has its bars", x.hole(net, 0, 0, 10, 10), (net + 1) * (10 - net));
        }
        says(23, "Throws `IllegalStateException` if there are 5");
        state("a sixth", () -> x.net(1, 1));
        argument("a sixth, rows 0", () -> x.net(0, 1));
        argument("a sixth, columns 11", () -> x.net(1, 11));
        index("there is no sixth", () -> x.twines(5));
        says(23, "Knots a net.");
        due("without torn bars", withNet(10, 10).twines(0), 0);
        says(23, "Returns its number.");
        Ropeloft y = withNet(1, 1);
        due("the next one", y.net(10, 10), 1);
    }

    private static void netEdges() {
        says(23, "`rows`: 1 to 10");
        argumentEdges(1, 10, rows -> new Ropeloft().net(rows, 5));
        due("the least", withNet(1, 10).hole(0, 0, 0, 10, 10), 10);
        due("the most", withNet(10, 1).hole(0, 0, 0, 10, 10), 10);
        says(23, "`columns`: 1 to 10");
        argumentEdges(1, 10, columns -> new Ropeloft().net(5, columns));
        due("both the least", withNet(1, 1).hole(0, 0, 0, 10, 10), 1);
        due("both the most", withNet(10, 10).hole(0, 0, 0, 10, 10), 100);
        says(23, "Throws `IllegalArgumentException` if rows or columns is out of range");
        Ropeloft x = new Ropeloft();
        argument("rows 0", () -> x.net(0, 1));
        argument("rows 11", () -> x.net(11, 1));
        argument("columns 0", () -> x.net(1, 0));
        argument("columns 11", () -> x.net(1, 11));
        index("no net was knotted", () -> x.twines(0));
    }

    // ---- to tear

    private static void knotsAndBars() {
        says(TERMS, "at those places of which row and column together are even; the bars are from each knot");
        for (int rows = 1; rows <= 10; rows++) {
            for (int columns = 1; columns <= 10; columns++) {
                Ropeloft x = withNet(rows, columns);
                int bars = 0;
                for (int row = 0; row < rows; row++) {
                    for (int column = 0; column <= columns; column++) {
                        bars += tearAt(x, row, column, rows, columns);
                    }
                }
                due("bars in all", bars, rows * columns);
            }
        }
    }

    /** Both bars below a place: each is there, if both its knots are. */
    private static int tearAt(Ropeloft x, int row, int column, int rows, int columns) {
        int bars = 0;
        for (int side = -1; side <= 1; side += 2) {
            boolean isRight = side > 0;
            boolean isBar = (row + column) % 2 == 0 && column + side >= 0 && column + side <= columns;
            String what = "bar of " + rows + " by " + columns + " at " + row + " " + column + " " + isRight;
            if (isBar) {
                CHECKS.dueNoThrow(what, () -> x.tear(0, row, column, isRight));
                state(what + ", torn", () -> x.tear(0, row, column, isRight));
                bars++;
            } else {
                index(what, () -> x.tear(0, row, column, isRight));
            }
        }
        return bars;
    }

    private static void tornBars() {
        says(24, "Tears a bar.");
        Ropeloft x = withNet(2, 3);
        x.net(10, 10);
        x.tear(0, 0, 0, true);
        due("just one", x.hole(0, 0, 0, 10, 10), 5);
        says(24, "Returns how many bars of the net are torn then.");
        due("in another net", x.tear(1, 9, 9, true), 1);
        due("and one more", x.tear(1, 8, 10, false), 2);
        due("behind a hole", tornBehindAHole(), 5);
        says(24, "`isRight`: whether it goes to the right, otherwise to the left");
        Ropeloft y = withNet(4, 4);
        y.tear(0, 1, 1, true);
        due("the square to the right", y.hole(0, 1, 1, 2, 2), 0);
        due("not the one to the left", y.hole(0, 1, 0, 2, 1), 1);
        Ropeloft z = withNet(4, 4);
        z.tear(0, 1, 1, false);
        due("the square to the left", z.hole(0, 1, 0, 2, 1), 0);
        due("not the one to the right", z.hole(0, 1, 1, 2, 2), 1);
        says(TERMS, "Bars can be torn.");
        due("all but two", z.hole(0, 0, 0, 10, 10), 14);
    }

    private static int tornBehindAHole() {
        Ropeloft x = withNet(4, 4);
        x.hole(0, 0, 0, 2, 2);
        return x.tear(0, 3, 3, true);
    }

    private static void tearEdges() {
        says(24, "`net`: its number");
        indexEdges(0, 0, net -> withNet(3, 3).tear(net, 0, 0, true));
        indexEdges(0, 4, net -> withFiveNets().tear(net, 0, 0, true));
        says(24, "`row`: of the upper knot");
        indexEdges(0, 9, row -> withNet(10, 10).tear(0, row, row == 9 ? 9 : 2, true));
        indexEdges(1, 3, row -> withNet(4, 4).tear(0, row, 1, true));
        says(24, "`column`: of the upper knot");
        indexEdges(0, 8, column -> withNet(9, 9).tear(0, 0, column, true));
        indexEdges(2, 10, column -> withNet(10, 10).tear(0, 0, column, false));
    }

    private static void tearRefuses() {
        says(24, "Throws `IndexOutOfBoundsException` if there is no such net, knot or bar");
        Ropeloft x = withNet(3, 4);
        index("net -1", () -> x.tear(-1, 0, 0, true));
        index("net 1", () -> x.tear(1, 0, 0, true));
        index("no knot where row and column are odd together", () -> x.tear(0, 0, 1, true));
        index("nor one row below", () -> x.tear(0, 1, 0, true));
        index("no row above", () -> x.tear(0, -1, 1, true));
        index("no row below the last", () -> x.tear(0, 3, 1, true));
        index("no row behind that", () -> x.tear(0, 4, 2, true));
        index("no column to the left", () -> x.tear(0, 0, 0, false));
        index("no column left of that", () -> x.tear(0, 1, -1, true));
        index("no column to the right", () -> x.tear(0, 0, 4, true));
        index("no column right of that", () -> x.tear(0, 1, 5, false));
        index("row and column far away", () -> x.tear(0, MOST, MOST, true));
        index("row and column far below 0", () -> x.tear(0, LEAST, LEAST, false));
        index("row and column that add up to 0", () -> x.tear(0, MOST, -MOST, true));
        says(24, "Throws `IllegalStateException` if it is torn");
        due("nothing is torn yet", x.tear(0, 0, 4, false), 1);
        state("torn", () -> x.tear(0, 0, 4, false));
        x.hole(0, 0, 0, 10, 10);
        state("torn by a hole", () -> x.tear(0, 2, 2, true));
        index("no bar, all others torn", () -> x.tear(0, 2, 1, true));
        due("none more is torn", x.mend(0, 200), 12);
        due("laid again, it can be torn", x.tear(0, 2, 2, true), 1);
    }

    // ---- holes

    private static void holes() {
        says(25, "Tears a hole: all bars of a net of which both knots are in a rectangle.");
        due("no bar in a row", withNet(4, 6).hole(0, 2, 0, 2, 10), 0);
        due("no bar in a column", withNet(4, 6).hole(0, 0, 3, 10, 3), 0);
        due("no bar at a knot", withNet(4, 6).hole(0, 2, 2, 2, 2), 0);
        Ropeloft x = withNet(4, 6);
        due("one square", x.hole(0, 1, 2, 2, 3), 1);
        state("its bar", () -> x.tear(0, 1, 3, false));
        due("not one beside it", x.tear(0, 1, 1, true), 2);
        Ropeloft y = withNet(10, 10);
        due("squares in the middle", y.hole(0, 3, 2, 6, 7), 15);
        state("upper left", () -> y.tear(0, 3, 3, false));
        state("lower right", () -> y.tear(0, 5, 7, false));
        due("one above", y.tear(0, 2, 2, true), 16);
        due("one to the left", y.tear(0, 3, 1, true), 17);
        due("one below", y.tear(0, 6, 2, true), 18);
        due("one to the right", y.tear(0, 3, 7, true), 19);
        says(25, "Returns how many bars are torn by that.");
        due("less those that are torn", y.hole(0, 2, 1, 7, 8), 35 - 19);
        due("none, when all are", y.hole(0, 2, 1, 7, 8), 0);
    }

    private static void holesLargerThanTheNet() {
        says(25, "it may be larger than the net");
        due("larger", withNet(4, 6).hole(0, 0, 0, 10, 10), 24);
        due("just as large", withNet(4, 6).hole(0, 0, 0, 4, 6), 24);
        due("larger to the right", withNet(4, 6).hole(0, 3, 5, 4, 10), 1);
        due("larger below", withNet(4, 6).hole(0, 3, 5, 10, 6), 1);
        due("it begins at the last knot", withNet(4, 6).hole(0, 4, 6, 10, 10), 0);
        due("it is all outside", withNet(4, 6).hole(0, 7, 7, 10, 10), 0);
        due("it is outside to the right", withNet(4, 6).hole(0, 0, 7, 4, 10), 0);
        due("it is outside below", withNet(4, 6).hole(0, 5, 0, 10, 6), 0);
        due("at the far corner", withNet(1, 1).hole(0, 10, 10, 10, 10), 0);
    }

    private static void holeEdges() {
        says(25, "`net`: its number");
        indexEdges(0, 4, net -> withFiveNets().hole(net, 0, 0, 5, 5));
        says(25, "`fromRow`: 0 to 10");
        argumentEdges(0, 10, fromRow -> withNet(4, 4).hole(0, fromRow, 0, 10, 5));
        says(25, "`fromColumn`: 0 to 10");
        argumentEdges(0, 10, fromColumn -> withNet(4, 4).hole(0, 0, fromColumn, 5, 10));
        says(25, "`toRow`: fromRow to 10");
        argumentEdges(0, 10, toRow -> withNet(4, 4).hole(0, 0, 0, toRow, 5));
        argumentEdges(3, 10, toRow -> withNet(4, 4).hole(0, 3, 0, toRow, 5));
        argumentEdges(10, 10, toRow -> withNet(4, 4).hole(0, 10, 0, toRow, 5));
        says(25, "`toColumn`: fromColumn to 10");
        argumentEdges(0, 10, toColumn -> withNet(4, 4).hole(0, 0, 0, 5, toColumn));
        argumentEdges(3, 10, toColumn -> withNet(4, 4).hole(0, 0, 3, 5, toColumn));
        argumentEdges(10, 10, toColumn -> withNet(4, 4).hole(0, 0, 10, 5, toColumn));
    }

    private static void holeRefuses() {
        says(25, "Throws `IndexOutOfBoundsException` if there is no such net");
        Ropeloft x = withNet(4, 4);
        index("net -1", () -> x.hole(-1, 0, 0, 5, 5));
        index("net 1", () -> x.hole(1, 0, 0, 5, 5));
        index("net 1, a wrong rectangle", () -> x.hole(1, 5, 5, 0, 11));
        says(25, "Throws `IllegalArgumentException` if the rectangle is out of range");
        argument("fromRow -1", () -> x.hole(0, -1, 0, 5, 5));
        argument("fromColumn -1", () -> x.hole(0, 0, -1, 5, 5));
        argument("toRow 11", () -> x.hole(0, 0, 0, 11, 5));
        argument("toColumn 11", () -> x.hole(0, 0, 0, 5, 11));
        argument("toRow below fromRow", () -> x.hole(0, 3, 0, 2, 5));
        argument("toColumn below fromColumn", () -> x.hole(0, 0, 3, 5, 2));
        argument("both rows 11", () -> x.hole(0, 11, 0, 11, 5));
        argument("both columns 11", () -> x.hole(0, 0, 11, 5, 11));
        argument("both rows -1", () -> x.hole(0, -1, 0, -1, 5));
        due("nothing was torn", x.tear(0, 0, 0, true), 1);
    }

    // ---- twines

    private static void dueTwines(String what, Ropeloft x, int net, int want) {
        due(what + ", twines", x.twines(net), want);
        due(what + ", twinesAnew", x.twinesAnew(net), want);
    }

    private static void twineAlongBars() {
        says(TERMS, "A twine can be laid along torn bars that follow one another, each one once, from knot to knot");
        Ropeloft x = withNet(10, 10);
        x.tear(0, 0, 0, true);
        dueTwines("one bar", x, 0, 1);
        x.tear(0, 2, 2, true);
        dueTwines("two bars apart", x, 0, 2);
        x.tear(0, 1, 1, true);
        dueTwines("three that follow one another", x, 0, 1);
        x.tear(0, 1, 1, false);
        dueTwines("a branch", x, 0, 2);
        says(TERMS, "however often it comes through a knot");
        Ropeloft y = withNet(4, 4);
        y.hole(0, 0, 1, 2, 3);
        y.hole(0, 2, 1, 4, 3);
        dueTwines("two rings that meet in a knot", y, 0, 1);
        says(TERMS, "all torn bars have to be laid again, each with one twine");
        Ropeloft z = withNet(2, 2);
        z.hole(0, 0, 0, 2, 2);
        dueTwines("four bars that meet in a knot", z, 0, 2);
    }

    private static void fewestTwines() {
        says(26, "Returns the fewest twines with which the torn bars of a net can be laid again.");
        Ropeloft x = withNet(10, 10);
        x.tear(0, 0, 0, true);
        x.tear(0, 5, 5, true);
        x.hole(0, 7, 1, 9, 3);
        x.hole(0, 1, 6, 3, 8);
        dueTwines("two bars, four that meet and a ring", x, 0, 1 + 1 + 2 + 1);
        Ropeloft y = withNet(1, 10);
        for (int column = 0; column < 10; column += 2) {
            y.tear(0, 0, column, true);
        }
        dueTwines("five bars apart", y, 0, 5);
        y.hole(0, 0, 0, 10, 10);
        dueTwines("ten that follow one another", y, 0, 1);
        says(26, "Returns how many; 0 if none is torn.");
        dueTwines("none torn", withNet(10, 10), 0, 0);
        due("all laid again", y.mend(0, 1), 10);
        dueTwines("none torn any more", y, 0, 0);
        says(27, "Returns the same, by laying twine after twine.");
        Ropeloft z = withNet(10, 10);
        for (int row = 0; row < 3; row++) {
            z.tear(0, row, row, true);
        }
        z.tear(0, 2, 4, false);
        z.tear(0, 1, 3, true);
        dueTwines("a hook", z, 0, 1);
        due("laying anew lays nothing again", z.mend(0, 200), 5);
        says(27, "Returns how many.");
        due("none torn", z.twinesAnew(0), 0);
    }

    /** Each ring touches the next one in a knot: a twine that comes by takes in all of them. */
    private static void twinesOfRings() {
        says(26, "the fewest twines");
        Ropeloft x = withNet(2, 10);
        for (int column = 1; column < 9; column += 2) {
            due("a ring", x.hole(0, 0, column, 2, column + 2), 4);
            dueTwines("rings up to column " + column, x, 0, 1);
        }
        x.tear(0, 1, 1, false);
        dueTwines("with an end", x, 0, 1);
        x.tear(0, 0, 0, true);
        dueTwines("with two ends at one knot", x, 0, 1);
        x.tear(0, 1, 9, true);
        dueTwines("with a third end", x, 0, 2);
        Ropeloft y = withNet(4, 4);
        y.hole(0, 0, 1, 2, 3);
        dueTwines("a ring", y, 0, 1);
        y.tear(0, 3, 3, true);
        dueTwines("a ring and a bar apart", y, 0, 2);
        y.tear(0, 2, 2, true);
        dueTwines("a ring with a tail", y, 0, 1);
    }

    /** A twine that walks upwards where it can passes the rings below it: they have to be taken in all the same. */
    private static void ringsBesideATwine() {
        says(27, "laying twine after twine");
        Ropeloft x = withNet(10, 10);
        x.tear(0, 0, 0, true);
        x.tear(0, 1, 1, true);
        x.tear(0, 1, 3, false);
        x.tear(0, 0, 4, false);
        dueTwines("down and up again", x, 0, 1);
        x.hole(0, 2, 1, 4, 3);
        dueTwines("with a ring below its middle", x, 0, 1);
        Ropeloft y = withNet(10, 10);
        y.tear(0, 1, 3, false);
        y.tear(0, 1, 3, true);
        y.hole(0, 2, 1, 4, 3);
        dueTwines("with a ring below its begin", y, 0, 1);
    }

    private static void tearSquares(Ropeloft x, int net, int... squares) {
        for (int square : squares) {
            int row = square / 10;
            int column = square % 10;
            x.hole(net, row, column, row + 1, column + 1);
        }
    }

    /** Here a ring is touched only by one that is taken in later and lies farther down. */
    private static void ringsThatRingsTouch() {
        says(27, "Returns the same, by laying twine after twine.");
        Ropeloft x = withNet(10, 10);
        x.net(10, 10);
        tearSquares(x, 0, 5, 6, 7, 8, 14, 16, 17, 18, 21, 22, 23, 25, 27, 28, 30, 33, 34, 37, 38);
        dueTwines("19 bars", x, 0, 1);
        tearSquares(x, 1, 1, 2, 5, 6, 7, 8, 11, 12, 14, 16, 17, 18, 21, 22, 23, 25, 30, 34, 40, 41, 42, 43);
        dueTwines("22 bars", x, 1, 1);
    }

    private static void netAfterNet() {
        says(26, "of a net");
        Ropeloft x = withNet(10, 10);
        x.net(10, 10);
        tearSquares(x, 0, 22, 33);
        tearSquares(x, 1, 0);
        x.hole(1, 4, 3, 6, 5);
        dueTwines("two that follow one another", x, 0, 1);
        dueTwines("a bar and a ring, asked behind that", x, 1, 2);
        dueTwines("two that follow one another, once more", x, 0, 1);
    }

    private static int oddKnotsOfWhole(int rows, int columns) {
        int odd = 0;
        for (int row = 0; row <= rows; row++) {
            for (int column = row % 2; column <= columns; column += 2) {
                boolean isCorner = (row == 0 || row == rows) && (column == 0 || column == columns);
                odd += isCorner ? 1 : 0;
            }
        }
        return odd;
    }

    /** All bars of a net are one part, of which only corners have an odd number of bars, one. */
    private static void twinesOfWholeNets() {
        says(26, "with which the torn bars of a net can be laid again");
        for (int rows = 1; rows <= 10; rows++) {
            for (int columns = 1; columns <= 10; columns++) {
                Ropeloft x = withNet(rows, columns);
                x.hole(0, 0, 0, 10, 10);
                int want = Math.max(1, oddKnotsOfWhole(rows, columns) / 2);
                dueTwines("all of " + rows + " by " + columns, x, 0, want);
                due("one too few", x.mend(0, want - 1), 0);
                due("enough", x.mend(0, want), rows * columns);
            }
        }
    }

    private static void twinesEdges() {
        says(26, "`net`: its number");
        indexEdges(0, 4, net -> withFiveNets().twines(net));
        says(26, "Throws `IndexOutOfBoundsException` if there is no such net");
        Ropeloft x = withNet(2, 2);
        index("net -1", () -> x.twines(-1));
        index("net 1", () -> x.twines(1));
        says(27, "`net`: its number");
        indexEdges(0, 4, net -> withFiveNets().twinesAnew(net));
        says(27, "Throws `IndexOutOfBoundsException` if there is no such net");
        index("net -1", () -> x.twinesAnew(-1));
        index("net 1", () -> x.twinesAnew(1));
    }

    // ---- to mend

    private static void mends() {
        says(28, "Mends a net with so many twines.");
        Ropeloft x = withNet(4, 4);
        x.net(1, 1);
        x.hole(0, 0, 0, 4, 4);
        x.tear(1, 0, 0, true);
        due("more than enough", x.mend(0, 200), 16);
        due("none is torn", x.twines(0), 0);
        due("the other net stays torn", x.twines(1), 1);
        due("its bars can be torn again", x.hole(0, 0, 0, 4, 4), 16);
        says(28, "all that are torn, if there are enough twines; otherwise 0");
        due("no twines", x.mend(0, 0), 0);
        due("one too few", x.mend(0, 1), 0);
        due("all stay torn", x.hole(0, 0, 0, 4, 4), 0);
        due("just enough", x.mend(0, 2), 16);
        says(28, "Returns how many bars are laid again");
        due("none torn", x.mend(0, 200), 0);
        due("none torn, no twines", x.mend(0, 0), 0);
        due("one torn, no twines", x.mend(1, 0), 0);
        due("one torn", x.mend(1, 1), 1);
    }

    private static void mendEdges() {
        says(28, "`net`: its number");
        indexEdges(0, 4, net -> withFiveNets().mend(net, 5));
        says(28, "`twines`: 0 to 200");
        argumentEdges(0, 200, twines -> withNet(4, 4).mend(0, twines));
        says(28, "Throws `IndexOutOfBoundsException` if there is no such net");
        Ropeloft x = withNet(1, 1);
        index("net -1", () -> x.mend(-1, 5));
        index("net 1, wrong twines", () -> x.mend(1, 201));
        says(28, "Throws `IllegalArgumentException` if twines is out of range");
        x.tear(0, 0, 0, true);
        argument("twines -1", () -> x.mend(0, -1));
        argument("twines 201", () -> x.mend(0, 201));
        due("it stays torn", x.twines(0), 1);
    }

    // ---- edges that are joined, depths

    private static void joins() {
        says(TERMS, "(k and 1) times a, divided by b, less k times a, divided by b");
        Ropeloft x = new Ropeloft();
        int[] tenOnFour = {2, 3, 2, 3};
        int[] threeOnFive = {0, 1, 0, 1, 1};
        for (int k = 0; k < 4; k++) {
            due("ten on four", x.join(10, 4, k), tenOnFour[k]);
        }
        for (int k = 0; k < 5; k++) {
            due("three on five", x.join(3, 5, k), threeOnFive[k]);
        }
        says(29, "Returns how many meshes of one edge a mesh of the other one takes.");
        int taken = 0;
        for (int k = 0; k < 97; k++) {
            taken += x.join(1000, 97, k);
        }
        due("all together take all", taken, 1000);
        says(29, "Returns how many.");
        due("all on one", x.join(10000, 1, 0), 10000);
        due("one on many, the first", x.join(1, 10000, 0), 0);
        due("one on many, the last but one", x.join(1, 10000, 9998), 0);
        due("one on many, the last", x.join(1, 10000, 9999), 1);
        due("as many on as many", x.join(10000, 10000, 9999), 1);
        due("one more than there are", x.join(10000, 9999, 9998), 2);
    }

    private static void joinEdges() {
        says(29, "`a`: 1 to 10000");
        argumentEdges(1, 10000, a -> new Ropeloft().join(a, 5, 4));
        says(29, "`b`: 1 to 10000");
        argumentEdges(1, 10000, b -> new Ropeloft().join(5, b, 0));
        says(29, "`k`: 0 to b less 1");
        argumentEdges(0, 4, k -> new Ropeloft().join(3, 5, k));
        argumentEdges(0, 0, k -> new Ropeloft().join(3, 1, k));
        argumentEdges(0, 9999, k -> new Ropeloft().join(10000, 10000, k));
        says(29, "Throws `IllegalArgumentException` if a, b or k is out of range");
        Ropeloft x = new Ropeloft();
        argument("a 0", () -> x.join(0, 5, 0));
        argument("b 0, and so k", () -> x.join(5, 0, 0));
        argument("b 0, k -1", () -> x.join(5, 0, -1));
        argument("b MIN, k MAX", () -> x.join(5, LEAST, MOST));
        argument("k 5 of 5", () -> x.join(5, 5, 5));
    }

    private static void depths() {
        says(TERMS, "the greatest number whose square is at most 10000 less the square of these hundredths");
        Ropeloft x = new Ropeloft();
        due("80 of 60, just", x.depth(1, 100, 60), 80);
        due("60 of 80, just", x.depth(1, 100, 80), 60);
        due("79 of 61", x.depth(1, 100, 61), 79);
        due("86 of 50", x.depth(1, 100, 50), 86);
        due("99 of 1", x.depth(1, 100, 1), 99);
        due("99 of 14", x.depth(1, 100, 14), 99);
        due("98 of 15", x.depth(1, 100, 15), 98);
        due("14 of 99", x.depth(1, 100, 99), 14);
        says(TERMS, "is the meshes times the size times the greatest number");
        due("3 times 5 times 86, rounded down", x.depth(3, 5, 50), 12);
        says(30, "Returns the hung depth.");
        due("the smallest net", x.depth(1, 1, 1), 0);
        due("the largest net", x.depth(1000, 1000, 28), 960000);
        says(30, "Returns the depth.");
        due("of the largest, the least hundredths", x.depth(1000, 1000, 1), 990000);
        due("of the largest, the most hundredths", x.depth(1000, 1000, 99), 140000);
    }

    private static void depthEdges() {
        says(30, "`meshes`: 1 to 1000");
        argumentEdges(1, 1000, meshes -> new Ropeloft().depth(meshes, 5, 50));
        says(30, "`size`: 1 to 1000");
        argumentEdges(1, 1000, size -> new Ropeloft().depth(5, size, 50));
        says(30, "`hundredths`: 1 to 99");
        argumentEdges(1, 99, hundredths -> new Ropeloft().depth(5, 5, hundredths));
        says(30, "Throws `IllegalArgumentException` if an argument is out of range");
        Ropeloft x = new Ropeloft();
        argument("meshes 0", () -> x.depth(0, 1, 50));
        argument("size 1001", () -> x.depth(1, 1001, 50));
        argument("hundredths 100", () -> x.depth(1, 1, 100));
        argument("all 0", () -> x.depth(0, 0, 0));
    }
}
