import java.util.function.Supplier;

/** The sentences of the promises that name a boundary, each with a test of its own. */
public final class BoundaryTest {
    private static final Due DUE = new Due();
    private static final int BAD = ConnectivitySuite.BAD;
    private static final int FULL = ConnectivitySuite.FULL;
    private static final int NONE = ConnectivitySuite.NONE;
    private static final int FALSE = 0;
    private static final int MIN = Integer.MIN_VALUE;
    private static final int MAX = Integer.MAX_VALUE;
    // Among the wrong numbers are those that a shift, or a cast to a shorter type, takes for right ones.
    private static final int[] NO_COUNT = {0, 9, 10, 16, 33, 257, 65537, -1, -8, -255, MIN, MIN + 1, MAX};
    private static final int[] NO_POINT_EVER = {8, 9, 31, 32, 33, 256, 65536, -1, -8, -32, -256, MIN, MIN + 1, MAX};
    private static final int[] NO_LINE_EVER = {16, 17, 31, 32, 33, 256, 65536, -1, -16, -32, -256, MIN, MIN + 1, MAX};
    private static final int[] NO_ENGINE = {3, 4, 32, 256, 257, 65536, -1, -2, -3, -256, MIN, MIN + 1, MAX};

    private interface Call {
        int on(ConnectivitySuite x);
    }

    public static void main(String[] args) {
        newObjectAndBegin();
        addRemoveAndLines();
        engines();
        blockAndIsland();
        weakestAndFragile();
        treesRingsAndSides();
        orderAndLimits();
        DUE.end();
    }

    private static void newObjectAndBegin() {
        DUE.sentence("1: One point, no lines.", BoundaryTest::newObject);
        DUE.sentence("2: Begins anew with n points and no lines, and answers true", BoundaryTest::beginsAnew);
        DUE.sentence("2: false, changing nothing, when n is not 1 .. 8", BoundaryTest::noSuchCount);
    }

    private static void addRemoveAndLines() {
        DUE.sentence("3: answers the least number that none has", BoundaryTest::leastFreeNumber);
        DUE.sentence("3: BAD when one is no point", BoundaryTest::addNoPoint);
        DUE.sentence("3: or they are the same", BoundaryTest::addTheSame);
        DUE.sentence("3: FULL when there are sixteen", BoundaryTest::addToSixteen);
        DUE.sentence("3: (tested in this order)", BoundaryTest::badBeforeFull);
        DUE.sentence("4: Takes line k away and answers true", BoundaryTest::removes);
        DUE.sentence("4: false when there is none", BoundaryTest::removeNone);
        DUE.sentence("5: The lines.", BoundaryTest::linesFromNoneToAll);
    }

    private static void engines() {
        DUE.sentence("6: groups, BAD when there is no such engine",
            () -> noSuchEngine("groups", (x, engine) -> x.groups(engine)));
        DUE.sentence("7: bridges, BAD when there is no such engine",
            () -> noSuchEngine("bridges", (x, engine) -> x.bridges(engine)));
        DUE.sentence("8: hinges, BAD when there is no such engine",
            () -> noSuchEngine("hinges", (x, engine) -> x.hinges(engine)));
        DUE.sentence("9: Whether two engines find the same groups, bridges and hinges", BoundaryTest::agree);
        DUE.sentence("9: false when one is none", BoundaryTest::agreeWithNone);
    }

    private static void blockAndIsland() {
        DUE.sentence("10: The lines that are in one block with line k, and k", BoundaryTest::blockHasItsLine);
        DUE.sentence("10: block, BAD when there is no line k", () -> noSuchLine("block", (x, k) -> x.block(k)));
        DUE.sentence("11: (p among them)", BoundaryTest::islandHasItsPoint);
        DUE.sentence("11: BAD when there is no point p", BoundaryTest::islandOfNoPoint);
    }

    private static void weakestAndFragile() {
        DUE.sentence("12: weakest, 0 when there is only one point",
            () -> onlyOnePoint("weakest()", x -> x.weakest()));
        DUE.sentence("12: weakest, 0 when there is .. more than one group",
            () -> moreThanOneGroup("weakest()", x -> x.weakest()));
        DUE.sentence("12: The least number of lines without which there are more groups than with all",
            BoundaryTest::weakestFromOneToSixteen);
        DUE.sentence("13: fragile, 0 when there is only one point",
            () -> onlyOnePoint("fragile()", x -> x.fragile()));
        DUE.sentence("13: fragile, 0 when there is .. more than one group",
            () -> moreThanOneGroup("fragile()", x -> x.fragile()));
        DUE.sentence("13: or only one point is left", BoundaryTest::onlyOnePointIsLeft);
        DUE.sentence("13: the others are not in one group", BoundaryTest::othersAreNotInOneGroup);
    }

    private static void treesRingsAndSides() {
        DUE.sentence("14: 1 when there is one point", BoundaryTest::treesOfOnePoint);
        DUE.sentence("14: The number of sets of n - 1 lines that join all points to one group", BoundaryTest::trees);
        DUE.sentence("15: shortest, NONE when there is none", BoundaryTest::noRing);
        DUE.sentence("15: The least number of lines of a ring", BoundaryTest::ringsFromTwoToEight);
        DUE.sentence("16: around, NONE when there is none", BoundaryTest::noRingAround);
        DUE.sentence("16: around, BAD when there is no line k", () -> noSuchLine("around", (x, k) -> x.around(k)));
        DUE.sentence("17: the set of those on the same side as the least point of their group",
            BoundaryTest::sideOfTheLeast);
        DUE.sentence("17: or NONE when it can't be done", BoundaryTest::noTwoSides);
    }

    private static void orderAndLimits() {
        DUE.sentence("18: a call that is refused (by a code below 0 that is named, or by false) changes nothing",
            BoundaryTest::refusedInARow);
        DUE.sentence("18: A ring is at the point with which it begins only at its beginning and its end.",
            BoundaryTest::ringsThatMeetAtOnePoint);
    }

    /** The call gives the code, and then the object can't be told from one that never had the call. */
    private static void refused(String name, Supplier<ConnectivitySuite> made, Call call, int code) {
        ConnectivitySuite asked = made.get();
        ConnectivitySuite spared = made.get();
        DUE.is(name, call.on(asked), code);
        DUE.same("after " + name, Graphs.look(asked), Graphs.look(spared));
        // A change that no answer shows yet may show in what is added later.
        DUE.is("after " + name + " add(0, 1)", asked.add(0, 1), spared.add(0, 1));
        DUE.is("after " + name + " remove(2)", asked.remove(2), spared.remove(2));
        DUE.is("after " + name + " add(1, 0)", asked.add(1, 0), spared.add(1, 0));
        DUE.is("after " + name + " add(6, 7)", asked.add(6, 7), spared.add(6, 7));
        DUE.same("later after " + name, Graphs.look(asked), Graphs.look(spared));
    }

    private static void newObject() {
        ConnectivitySuite x = new ConnectivitySuite();
        DUE.is("lines()", x.lines(), 0);
        DUE.is("island(0)", x.island(0), 1);
        DUE.is("island(1)", x.island(1), BAD);
        DUE.is("add(0, 1)", x.add(0, 1), BAD);
        DUE.is("add(0, 0)", x.add(0, 0), BAD);
        DUE.is("remove(0)", x.remove(0), false);
        DUE.same("as after begin(1)", Graphs.look(x), Graphs.look(Graphs.graph(1, "")));
        Graphs.fullOfEight();
        DUE.is("lines() beside another object", new ConnectivitySuite().lines(), 0);
    }

    private static void beginsAnew() {
        for (var made : Graphs.states()) {
            for (int n = 1; n <= 8; n++) {
                ConnectivitySuite x = made.get();
                DUE.is("begin(" + n + ")", x.begin(n), true);
                DUE.is("lines()", x.lines(), 0);
                DUE.is("groups(1)", x.groups(1), n);
                DUE.is("sides()", x.sides(), (1 << n) - 1);
                DUE.is("island(n - 1)", x.island(n - 1), 1 << (n - 1));
                DUE.is("island(n)", x.island(n), BAD);
                DUE.is("remove(0)", x.remove(0), false);
                DUE.is("the first add", x.add(0, n - 1), n == 1 ? BAD : 0);
            }
        }
    }

    private static void noSuchCount() {
        for (var made : Graphs.states()) {
            for (int n : NO_COUNT) {
                refused("begin(" + n + ")", made, x -> x.begin(n) ? 1 : 0, FALSE);
            }
        }
    }

    private static void leastFreeNumber() {
        for (int gap = 0; gap < 16; gap++) {
            ConnectivitySuite x = Graphs.fullOfEight();
            x.remove(gap);
            DUE.is("add with the one number " + gap + " free", x.add(0, 7), gap);
            DUE.is("lines()", x.lines(), Graphs.ALL_LINES);
        }
        ConnectivitySuite x = Graphs.fullOfEight();
        for (int k : new int[] {15, 3, 8, 0}) {
            x.remove(k);
        }
        for (int k : new int[] {0, 3, 8, 15}) {
            DUE.is("add with several free", x.add(0, 7), k);
        }
        x.begin(2);
        DUE.is("add after begin", x.add(1, 0), 0);
    }

    private static void addNoPoint() {
        for (int n = 1; n <= 8; n++) {
            int count = n;
            Supplier<ConnectivitySuite> made = () -> Graphs.graph(count, Graphs.way(count));
            refused("add(0, n) of " + n, made, x -> x.add(0, count), BAD);
            refused("add(n, 0) of " + n, made, x -> x.add(count, 0), BAD);
            refused("add(n, n + 1) of " + n, made, x -> x.add(count, count + 1), BAD);
        }
        for (int p : NO_POINT_EVER) {
            refused("add(1, " + p + ")", Graphs::withGaps, x -> x.add(1, p), BAD);
            refused("add(" + p + ", 1)", Graphs::withGaps, x -> x.add(p, 1), BAD);
        }
    }

    private static void addTheSame() {
        for (int p = 0; p < 8; p++) {
            int point = p;
            refused("add(" + p + ", " + p + ")", () -> Graphs.graph(8, Graphs.ring(8)), x -> x.add(point, point), BAD);
        }
        for (int p : NO_POINT_EVER) {
            refused("add(" + p + ", " + p + ")", Graphs::withGaps, x -> x.add(p, p), BAD);
        }
    }

    private static void addToSixteen() {
        ConnectivitySuite x = Graphs.graph(8, Graphs.times(15, "01"));
        DUE.is("the sixteenth", x.add(6, 7), 15);
        DUE.is("the seventeenth", x.add(6, 7), FULL);
        x.remove(4);
        DUE.is("one for one that is gone", x.add(6, 7), 4);
        DUE.is("one more", x.add(6, 7), FULL);
        refused("add(0, 1) to sixteen", Graphs::fullOfTwo, y -> y.add(0, 1), FULL);
        refused("add(7, 0) to sixteen", Graphs::fullOfEight, y -> y.add(7, 0), FULL);
        refused("add(3, 6) to sixteen", Graphs::fullOfEight, y -> y.add(3, 6), FULL);
    }

    private static void badBeforeFull() {
        refused("add(0, 2) to sixteen", Graphs::fullOfTwo, x -> x.add(0, 2), BAD);
        refused("add(2, 0) to sixteen", Graphs::fullOfTwo, x -> x.add(2, 0), BAD);
        refused("add(1, 1) to sixteen", Graphs::fullOfTwo, x -> x.add(1, 1), BAD);
        refused("add(8, -1) to sixteen", Graphs::fullOfEight, x -> x.add(8, -1), BAD);
    }

    private static void removes() {
        for (int k = 0; k < 16; k++) {
            ConnectivitySuite x = Graphs.fullOfTwo();
            DUE.is("remove(" + k + ")", x.remove(k), true);
            DUE.is("lines()", x.lines(), Graphs.ALL_LINES - (1 << k));
            DUE.is("trees()", x.trees(), 15);
        }
        ConnectivitySuite x = Graphs.fullOfTwo();
        for (int k = 15; k >= 0; k--) {
            DUE.is("remove(" + k + ")", x.remove(k), true);
            DUE.is("groups(0)", x.groups(0), k == 0 ? 2 : 1);
        }
    }

    private static void removeNone() {
        for (int k = 0; k < 16; k++) {
            int line = k;
            refused("remove(" + k + ") of none", () -> Graphs.graph(8, ""), x -> x.remove(line) ? 1 : 0, FALSE);
        }
        for (int k : NO_LINE_EVER) {
            refused("remove(" + k + ")", Graphs::fullOfEight, x -> x.remove(k) ? 1 : 0, FALSE);
        }
        refused("remove(4) again", Graphs::withGaps, x -> x.remove(4) ? 1 : 0, FALSE);
        ConnectivitySuite x = Graphs.fullOfEight();
        x.begin(8);
        DUE.is("remove(0) after begin", x.remove(0), false);
        DUE.is("remove(15) after begin", x.remove(15), false);
    }

    private static void linesFromNoneToAll() {
        ConnectivitySuite x = Graphs.graph(3, "");
        DUE.is("lines() of none", x.lines(), 0);
        for (int k = 0; k < 16; k++) {
            x.add(k % 3, (k + 1) % 3);
            DUE.is("lines() of " + (k + 1), x.lines(), (2 << k) - 1);
        }
        x.add(0, 1);
        DUE.is("lines() after one that found no room", x.lines(), Graphs.ALL_LINES);
    }

    private interface Asking {
        int of(ConnectivitySuite x, int number);
    }

    private static void noSuchEngine(String name, Asking asking) {
        for (var made : Graphs.states()) {
            for (int engine : NO_ENGINE) {
                refused(name + "(" + engine + ")", made, x -> asking.of(x, engine), BAD);
            }
            for (int engine = 0; engine < 3; engine++) {
                DUE.is(name + "(" + engine + ") refused", asking.of(made.get(), engine) < 0, false);
            }
        }
    }

    private static void agree() {
        for (var made : Graphs.states()) {
            ConnectivitySuite x = made.get();
            for (int engine = 0; engine < 3; engine++) {
                for (int other = 0; other < 3; other++) {
                    DUE.is("agree(" + engine + ", " + other + ")", x.agree(engine, other), true);
                }
            }
        }
    }

    private static void agreeWithNone() {
        for (int none : NO_ENGINE) {
            for (int engine = 0; engine < 3; engine++) {
                noAgreement(engine, none);
                noAgreement(none, engine);
            }
            noAgreement(none, none);
        }
    }

    private static void noAgreement(int engine, int other) {
        refused("agree(" + engine + ", " + other + ")", Graphs::withGaps, x -> x.agree(engine, other) ? 1 : 0, FALSE);
    }

    private static void blockHasItsLine() {
        ConnectivitySuite way = Graphs.graph(8, Graphs.way(8));
        for (int k = 0; k < 7; k++) {
            DUE.is("block(" + k + ") of a line without a ring", way.block(k), 1 << k);
        }
        ConnectivitySuite last = Graphs.graph(8, Graphs.times(15, "01") + "67");
        DUE.is("block(15) of a line without a ring", last.block(15), 1 << 15);
        DUE.is("block(0) of fifteen", last.block(0), 32767);
        DUE.is("block(7) of sixteen", Graphs.fullOfTwo().block(7), Graphs.ALL_LINES);
    }

    private static void noSuchLine(String name, Asking asking) {
        for (var made : Graphs.states()) {
            for (int k : NO_LINE_EVER) {
                refused(name + "(" + k + ")", made, x -> asking.of(x, k), BAD);
            }
        }
        for (int k = 0; k < 16; k++) {
            int line = k;
            refused(name + "(" + k + ") of none", () -> Graphs.graph(8, ""), x -> asking.of(x, line), BAD);
        }
        ConnectivitySuite x = Graphs.fullOfEight();
        for (int k = 0; k < 16; k++) {
            DUE.is(name + "(" + k + ") refused", asking.of(x, k) == BAD, false);
            x.remove(k);
            DUE.is(name + "(" + k + ") when removed", asking.of(x, k), BAD);
        }
        ConnectivitySuite anew = Graphs.fullOfEight();
        anew.begin(8);
        DUE.is(name + "(0) after begin", asking.of(anew, 0), BAD);
    }

    private static void islandHasItsPoint() {
        ConnectivitySuite alone = Graphs.graph(8, "");
        ConnectivitySuite way = Graphs.graph(8, Graphs.way(8));
        ConnectivitySuite ring = Graphs.graph(8, Graphs.ring(8));
        for (int p = 0; p < 8; p++) {
            DUE.is("island(" + p + ") without lines", alone.island(p), 1 << p);
            DUE.is("island(" + p + ") with bridges alone", way.island(p), 1 << p);
            DUE.is("island(" + p + ") of a ring", ring.island(p), 255);
        }
        DUE.is("island(0) of a new object", new ConnectivitySuite().island(0), 1);
    }

    private static void islandOfNoPoint() {
        for (int n = 1; n <= 8; n++) {
            int count = n;
            for (int p = n; p <= 16; p++) {
                int point = p;
                refused("island(" + p + ") of " + n, () -> Graphs.graph(count, ""), x -> x.island(point), BAD);
            }
        }
        for (var made : Graphs.states()) {
            for (int p : NO_POINT_EVER) {
                refused("island(" + p + ")", made, x -> x.island(p), BAD);
            }
        }
        ConnectivitySuite fewer = Graphs.fullOfEight();
        fewer.begin(3);
        DUE.is("island(3) after begin with fewer", fewer.island(3), BAD);
    }

    private static void onlyOnePoint(String name, Call call) {
        DUE.is(name + " of a new object", call.on(new ConnectivitySuite()), 0);
        ConnectivitySuite x = Graphs.fullOfEight();
        x.begin(1);
        DUE.is(name + " after begin(1)", call.on(x), 0);
    }

    private static void moreThanOneGroup(String name, Call call) {
        for (int n = 2; n <= 8; n++) {
            DUE.is(name + " of " + n + " points alone", call.on(Graphs.graph(n, "")), 0);
            DUE.is(name + " of a way to all but the last of " + n, call.on(Graphs.graph(n, Graphs.way(n - 1))), 0);
        }
        DUE.is(name + " of a ring and the last point alone", call.on(Graphs.graph(4, "01 12 20")), 0);
        DUE.is(name + " of a ring and the first point alone", call.on(Graphs.graph(4, "12 23 31")), 0);
        DUE.is(name + " of two rings", call.on(Graphs.graph(6, "01 12 20 34 45 53")), 0);
        DUE.is(name + " of two times four all joined",
            call.on(Graphs.graph(8, "01 02 03 12 13 23 45 46 47 56 57 67")), 0);
    }

    private static void weakestFromOneToSixteen() {
        for (int count = 1; count <= 16; count++) {
            DUE.is("weakest() of two points", Graphs.graph(2, Graphs.times(count, "01")).weakest(), count);
        }
        for (int n = 2; n <= 8; n++) {
            DUE.is("weakest() of a way of " + n, Graphs.graph(n, Graphs.way(n)).weakest(), 1);
            DUE.is("weakest() of a ring of " + n, Graphs.graph(n, Graphs.ring(n)).weakest(), 2);
        }
        DUE.is("weakest() at the first point", Graphs.graph(3, "01 01 12 12 12").weakest(), 2);
        DUE.is("weakest() at the last point", Graphs.graph(3, "01 01 01 12 12").weakest(), 2);
        DUE.is("weakest() of all joined", Graphs.graph(6, Graphs.allJoined(6)).weakest(), 5);
        DUE.is("weakest() of four lines at each of eight", Graphs.fullOfEightEven().weakest(), 4);
    }

    private static void onlyOnePointIsLeft() {
        for (int n = 2; n <= 6; n++) {
            DUE.is("fragile() of " + n + " all joined", Graphs.graph(n, Graphs.allJoined(n)).fragile(), n - 1);
        }
        DUE.is("fragile() of two points with sixteen lines", Graphs.fullOfTwo().fragile(), 1);
        DUE.is("fragile() of a ring with each line twice", Graphs.graph(3, "01 01 12 12 20 20").fragile(), 2);
    }

    private static void othersAreNotInOneGroup() {
        for (int n = 3; n <= 8; n++) {
            DUE.is("fragile() of a way of " + n, Graphs.graph(n, Graphs.way(n)).fragile(), 1);
        }
        for (int n = 4; n <= 8; n++) {
            DUE.is("fragile() of a ring of " + n, Graphs.graph(n, Graphs.ring(n)).fragile(), 2);
        }
        DUE.is("fragile() at the first point", Graphs.graph(5, "01 12 20 03 34 40").fragile(), 1);
        DUE.is("fragile() at the last point", Graphs.graph(5, "41 12 24 43 30 04").fragile(), 1);
        DUE.is("fragile() of all joined but two",
            Graphs.graph(6, "02 03 04 05 12 13 14 15 23 24 25 34 35 45").fragile(), 4);
        DUE.is("fragile() of four lines at each of eight", Graphs.fullOfEightEven().fragile(), 4);
    }

    private static void treesOfOnePoint() {
        DUE.is("trees() of a new object", new ConnectivitySuite().trees(), 1);
        ConnectivitySuite x = Graphs.fullOfEight();
        x.begin(1);
        DUE.is("trees() after begin(1)", x.trees(), 1);
    }

    private static void trees() {
        for (int n = 2; n <= 8; n++) {
            DUE.is("trees() without lines", Graphs.graph(n, "").trees(), 0);
            DUE.is("trees() of n - 2 lines", Graphs.graph(n, Graphs.way(n - 1)).trees(), 0);
            DUE.is("trees() of n - 1 lines", Graphs.graph(n, Graphs.way(n)).trees(), 1);
            DUE.is("trees() of n lines", Graphs.graph(n, Graphs.ring(n)).trees(), n);
        }
        DUE.is("trees() of n - 1 lines and two groups", Graphs.graph(4, "12 23 31").trees(), 0);
        DUE.is("trees() of sixteen lines and seven groups", Graphs.graph(8, Graphs.times(16, "67")).trees(), 0);
        DUE.is("trees() of sixteen lines and two groups",
            Graphs.graph(8, "01 12 20 01 12 20 34 45 56 67 73 34 45 56 67 73").trees(), 0);
        DUE.is("trees() of two points with sixteen lines", Graphs.fullOfTwo().trees(), 16);
        DUE.is("trees() of four lines at each of eight", Graphs.fullOfEightEven().trees(), 4096);
    }

    private static void noRing() {
        DUE.is("shortest() of one point", new ConnectivitySuite().shortest(), NONE);
        DUE.is("shortest() without lines", Graphs.graph(8, "").shortest(), NONE);
        for (int n = 2; n <= 8; n++) {
            refused("shortest() of a way of " + n, wayOf(n), x -> x.shortest(), NONE);
        }
        DUE.is("shortest() of a star", Graphs.graph(8, "70 71 72 73 74 75 76").shortest(), NONE);
    }

    private static Supplier<ConnectivitySuite> wayOf(int n) {
        return () -> Graphs.graph(n, Graphs.way(n));
    }

    private static void ringsFromTwoToEight() {
        for (int n = 2; n <= 8; n++) {
            ConnectivitySuite x = Graphs.graph(n, Graphs.ring(n));
            DUE.is("shortest() of a ring of " + n, x.shortest(), n);
            DUE.is("around(0) of a ring of " + n, x.around(0), n);
            DUE.is("around(n - 1) of a ring of " + n, x.around(n - 1), n);
        }
        DUE.is("shortest() where the last two lines are the least ring",
            Graphs.graph(8, Graphs.ring(8) + " 57 57").shortest(), 2);
    }

    private static void noRingAround() {
        for (int n = 2; n <= 8; n++) {
            int last = n - 2;
            refused("around(0) of a way of " + n, wayOf(n), x -> x.around(0), NONE);
            refused("around(n - 2) of a way of " + n, wayOf(n), x -> x.around(last), NONE);
        }
        ConnectivitySuite x = Graphs.graph(8, "01 12 20 23 34 45 53 67");
        DUE.is("around(3) of a line between two rings", x.around(3), NONE);
        DUE.is("around(7) of a line apart from the rings", x.around(7), NONE);
        DUE.is("around(6) of a line of a ring", x.around(6), 3);
        ConnectivitySuite last = Graphs.graph(8, Graphs.times(15, "01") + "67");
        DUE.is("around(15)", last.around(15), NONE);
    }

    private static void sideOfTheLeast() {
        DUE.is("sides() of one point", new ConnectivitySuite().sides(), 1);
        for (int n = 1; n <= 8; n++) {
            DUE.is("sides() of " + n + " points alone", Graphs.graph(n, "").sides(), (1 << n) - 1);
            DUE.is("sides() of a way of " + n, Graphs.graph(n, Graphs.way(n)).sides(), 85 & ((1 << n) - 1));
        }
        DUE.is("sides() of two points with sixteen lines", Graphs.fullOfTwo().sides(), 1);
        DUE.is("sides() of two groups, the lines from the greatest", Graphs.graph(8, "76 75 43 42 41 40").sides(),
            Graphs.set(0, 1, 2, 3, 5, 6));
        DUE.is("sides() of pairs", Graphs.graph(8, "70 61 52 43").sides(), 15);
        DUE.is("sides() of even rings", Graphs.graph(8, "01 12 23 30 45 56 67 74").sides(), Graphs.set(0, 2, 4, 6));
    }

    private static void noTwoSides() {
        for (int n = 3; n <= 8; n++) {
            boolean even = n % 2 == 0;
            DUE.is("sides() of a ring of " + n, Graphs.graph(n, Graphs.ring(n)).sides(),
                even ? 85 & ((1 << n) - 1) : NONE);
        }
        refused("sides() of a ring of three", () -> Graphs.graph(3, Graphs.ring(3)), x -> x.sides(), NONE);
        refused("sides() of a ring of seven", () -> Graphs.graph(8, Graphs.ring(7)), x -> x.sides(), NONE);
        DUE.is("sides() with an odd ring in the last group", Graphs.graph(8, "01 12 23 34 56 67 75").sides(), NONE);
        DUE.is("sides() with an odd ring far from the least point",
            Graphs.graph(8, "01 12 23 34 45 56 67 75").sides(), NONE);
    }

    /** All refused calls, one after the other, on one object: what each alone does is tested with its promise. */
    private static void refusedInARow() {
        refused("every refused call in a row", Graphs::withGaps, BoundaryTest::askRefused, 18);
        refused("every refused call in a row, twice", Graphs::withGaps,
            x -> askRefused(x) + askRefused(x), 36);
        ConnectivitySuite asked = Graphs.fullOfEight();
        int[] before = Graphs.look(asked);
        DUE.same("after a look", Graphs.look(asked), before);
    }

    private static int askRefused(ConnectivitySuite x) {
        boolean[] as = {
            !x.begin(0), !x.begin(9), x.add(0, 7) == BAD, x.add(-1, 0) == BAD, x.add(3, 3) == BAD,
            !x.remove(0), !x.remove(16), !x.remove(-1), x.groups(3) == BAD, x.bridges(-1) == BAD,
            x.hinges(3) == BAD, !x.agree(0, 3), !x.agree(-1, 0), x.block(4) == BAD, x.island(7) == BAD,
            x.around(0) == BAD, x.around(5) == NONE, x.sides() == NONE};
        int refused = 0;
        for (boolean one : as) {
            refused += one ? 1 : 0;
        }
        return refused;
    }

    private static void ringsThatMeetAtOnePoint() {
        for (int middle = 0; middle < 8; middle++) {
            ConnectivitySuite x = Graphs.graph(8, "");
            for (int i = 1; i < 8; i++) {
                x.add(middle, (middle + i) % 8);
                x.add((middle + i) % 8, middle);
            }
            for (int k = 0; k < 14; k++) {
                DUE.is("block(" + k + ") of seven rings at " + middle, x.block(k), 3 << (k - k % 2));
                DUE.is("around(" + k + ") of seven rings at " + middle, x.around(k), 2);
            }
        }
        ConnectivitySuite eight = Graphs.graph(7, "01 12 23 30 04 45 56 60");
        DUE.is("block(0) of two rings of four", eight.block(0), 15);
        DUE.is("block(7) of two rings of four", eight.block(7), 240);
    }
}
