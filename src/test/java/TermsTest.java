/** The sentences under "What it is" and "Terms" that name a boundary, each with a test of its own. */
public final class TermsTest {
    private static final Due DUE = new Due();
    private static final int BAD = ConnectivitySuite.BAD;
    private static final int NONE = ConnectivitySuite.NONE;

    public static void main(String[] args) {
        DUE.sentence("An object is used for at most 512 calls after it has been made",
            TermsTest::rightUpToTheLastCall);
        DUE.sentence("There are n POINTS 0 .. n - 1 (n from 1 to 8)", TermsTest::points);
        DUE.sentence("at most 16 LINES, with numbers 0 .. 15", TermsTest::lineNumbers);
        DUE.sentence("a line joins two different points", TermsTest::differentPoints);
        DUE.sentence("several lines may join the same two", TermsTest::severalLines);
        DUE.sentence("Points are in one GROUP when a way joins them", TermsTest::oneGroup);
        DUE.sentence("(a point and itself always)", TermsTest::pointAndItself);
        DUE.sentence("A line is a BRIDGE when there are more groups without it", TermsTest::bridge);
        DUE.sentence("A point is a HINGE when, without it and its lines, the other points are in more groups than "
            + "all points are now", TermsTest::hinge);
        DUE.sentence("A RING is a way along at least two different lines", TermsTest::twoLines);
        DUE.sentence("none used twice, from a point to itself", TermsTest::noLineTwice);
        DUE.sentence("that comes to no other point twice", TermsTest::noPointTwice);
        DUE.sentence("Two different lines are in one BLOCK when there is a ring with both", TermsTest::oneBlock);
        DUE.sentence("Sets are written with bit i for number i", TermsTest::sets);
        DUE.sentence("An ENGINE is a number 0 .. 2", TermsTest::engines);
        DUE.sentence("no answer depends on it", TermsTest::noAnswerDependsOnTheEngine);
        DUE.end();
    }

    private static void rightUpToTheLastCall() {
        ConnectivitySuite changed = new ConnectivitySuite();
        changed.begin(2);
        for (int call = 2; call < 496; call += 2) {
            DUE.is("add as call " + call, changed.add(0, 1), 0);
            DUE.is("remove as the next", changed.remove(0), true);
        }
        for (int call = 496; call < 512; call++) {
            DUE.is("add as call " + call, changed.add(0, 1), call - 496);
        }
        DUE.is("lines() as call 512", changed.lines(), Graphs.ALL_LINES);
        ConnectivitySuite asked = Graphs.graph(4, "01 12 20 23");
        for (int call = 6; call < 512; call++) {
            asked.hinges(call % 3);
        }
        DUE.is("trees() as call 512", asked.trees(), 3);
    }

    private static void points() {
        for (int n = 1; n <= 8; n++) {
            ConnectivitySuite x = Graphs.graph(n, "");
            for (int p = 0; p < n; p++) {
                DUE.is("island(" + p + ") of " + n, x.island(p), 1 << p);
            }
            DUE.is("island(-1) of " + n, x.island(-1), BAD);
            DUE.is("island(" + n + ") of " + n, x.island(n), BAD);
        }
    }

    private static void lineNumbers() {
        ConnectivitySuite x = Graphs.graph(8, "");
        for (int k = 0; k < 16; k++) {
            DUE.is("add", x.add(k % 8, (k + 1) % 8), k);
            DUE.is("around(" + k + ") of a line that is there", x.around(k) == BAD, false);
        }
        DUE.is("lines()", x.lines(), Graphs.ALL_LINES);
        DUE.is("a seventeenth", x.add(0, 1), ConnectivitySuite.FULL);
        DUE.is("block(16)", x.block(16), BAD);
        DUE.is("block(-1)", x.block(-1), BAD);
    }

    private static void differentPoints() {
        for (int n = 1; n <= 8; n++) {
            ConnectivitySuite x = Graphs.graph(n, "");
            for (int p = 0; p < n; p++) {
                DUE.is("add(" + p + ", " + p + ") of " + n, x.add(p, p), BAD);
            }
            DUE.is("lines() of " + n, x.lines(), 0);
        }
    }

    private static void severalLines() {
        ConnectivitySuite x = Graphs.graph(2, "");
        for (int k = 0; k < 16; k++) {
            DUE.is("add", k % 2 == 0 ? x.add(0, 1) : x.add(1, 0), k);
            DUE.is("trees() of " + (k + 1) + " lines", x.trees(), k + 1);
        }
    }

    private static void oneGroup() {
        for (int engine = 0; engine < 3; engine++) {
            DUE.is("the longest way", Graphs.graph(8, Graphs.way(8)).groups(engine), 1);
            DUE.is("the longest way, each line before the one that leads to it",
                Graphs.graph(8, "67 56 45 34 23 12 01").groups(engine), 1);
            DUE.is("one line short", Graphs.graph(8, "67 56 45 23 12 01").groups(engine), 2);
        }
    }

    private static void pointAndItself() {
        for (int n = 1; n <= 8; n++) {
            for (int engine = 0; engine < 3; engine++) {
                DUE.is("groups(" + engine + ") of " + n + " points alone", Graphs.graph(n, "").groups(engine), n);
            }
        }
    }

    private static void bridge() {
        for (int engine = 0; engine < 3; engine++) {
            DUE.is("no line", Graphs.graph(8, "").bridges(engine), 0);
            ConnectivitySuite x = Graphs.graph(2, "01");
            DUE.is("one line", x.bridges(engine), 1);
            x.add(0, 1);
            DUE.is("two between the same points", x.bridges(engine), 0);
            x.remove(0);
            DUE.is("one of the two", x.bridges(engine), 2);
            DUE.is("a way", Graphs.graph(8, Graphs.way(8)).bridges(engine), 127);
            DUE.is("a ring", Graphs.graph(8, Graphs.ring(8)).bridges(engine), 0);
            DUE.is("line 15", Graphs.graph(8, Graphs.times(15, "01") + "67").bridges(engine), 1 << 15);
        }
    }

    private static void hinge() {
        for (int engine = 0; engine < 3; engine++) {
            DUE.is("the only point", Graphs.graph(1, "").hinges(engine), 0);
            DUE.is("points alone", Graphs.graph(8, "").hinges(engine), 0);
            DUE.is("a point alone beside a ring", Graphs.graph(4, "01 12 20").hinges(engine), 0);
            DUE.is("two points", Graphs.graph(2, "01").hinges(engine), 0);
            DUE.is("a way, not its ends", Graphs.graph(8, Graphs.way(8)).hinges(engine), 126);
            DUE.is("a ring", Graphs.graph(8, Graphs.ring(8)).hinges(engine), 0);
            DUE.is("the first point", Graphs.graph(8, "10 20").hinges(engine), 1);
            DUE.is("the last point", Graphs.graph(8, "75 76").hinges(engine), 128);
            DUE.is("without a bridge", Graphs.graph(3, "01 01 12 12").hinges(engine), 2);
        }
    }

    private static void twoLines() {
        ConnectivitySuite x = Graphs.graph(2, "01");
        DUE.is("shortest() of one line", x.shortest(), NONE);
        DUE.is("around(0) of one line", x.around(0), NONE);
        x.add(0, 1);
        DUE.is("shortest() of two", x.shortest(), 2);
        DUE.is("around(0) of two", x.around(0), 2);
        DUE.is("block(0) of two", x.block(0), 3);
    }

    private static void noLineTwice() {
        ConnectivitySuite x = Graphs.graph(8, Graphs.way(8));
        DUE.is("shortest() there and back", x.shortest(), NONE);
        for (int k = 0; k < 7; k++) {
            DUE.is("around(" + k + ") there and back", x.around(k), NONE);
            DUE.is("block(" + k + ") there and back", x.block(k), 1 << k);
        }
    }

    private static void noPointTwice() {
        ConnectivitySuite x = Graphs.graph(6, "01 12 20 23 34 45 53");
        DUE.is("block(0), a ring with a line to another ring", x.block(0), 7);
        DUE.is("block(3), the line between the rings", x.block(3), 8);
        DUE.is("around(3), the line between the rings", x.around(3), NONE);
        DUE.is("block(4), the other ring", x.block(4), 112);
        ConnectivitySuite chain = Graphs.graph(4, "01 01 12 12 23 23");
        for (int k = 0; k < 6; k++) {
            DUE.is("block(" + k + ") of a chain of rings", chain.block(k), 3 << (k - k % 2));
        }
    }

    private static void oneBlock() {
        for (int n = 2; n <= 8; n++) {
            ConnectivitySuite x = Graphs.graph(n, Graphs.ring(n));
            for (int k = 0; k < n; k++) {
                DUE.is("block(" + k + ") of a ring of " + n, x.block(k), (1 << n) - 1);
            }
        }
        ConnectivitySuite chord = Graphs.graph(8, Graphs.ring(8) + " 04");
        DUE.is("block(0), though not each two lines are in the same ring", chord.block(0), 511);
        DUE.is("block(8) of the chord", chord.block(8), 511);
        DUE.is("two rings apart", Graphs.graph(6, "01 12 20 34 45 53").block(0), 7);
        DUE.is("line 15", Graphs.fullOfTwo().block(15), Graphs.ALL_LINES);
    }

    private static void sets() {
        ConnectivitySuite x = Graphs.graph(8, Graphs.times(15, "01") + "67");
        x.remove(7);
        DUE.is("lines()", x.lines(), 65535 - 128);
        DUE.is("block(15)", x.block(15), 32768);
        DUE.is("island(7)", x.island(7), 128);
        DUE.is("island(0)", x.island(0), 3);
        DUE.is("sides()", x.sides(), 1 + 4 + 8 + 16 + 32 + 64);
    }

    private static void engines() {
        ConnectivitySuite x = Graphs.withGaps();
        for (int engine = -3; engine <= 5; engine++) {
            boolean none = engine < 0 || engine > 2;
            DUE.is("groups(" + engine + ") refused", x.groups(engine) == BAD, none);
            DUE.is("bridges(" + engine + ") refused", x.bridges(engine) == BAD, none);
            DUE.is("hinges(" + engine + ") refused", x.hinges(engine) == BAD, none);
            DUE.is("agree(" + engine + ", " + engine + ")", x.agree(engine, engine), !none);
        }
    }

    private static void noAnswerDependsOnTheEngine() {
        for (var made : Graphs.states()) {
            ConnectivitySuite x = made.get();
            for (int engine = 1; engine < 3; engine++) {
                DUE.is("groups(" + engine + ")", x.groups(engine), x.groups(0));
                DUE.is("bridges(" + engine + ")", x.bridges(engine), x.bridges(0));
                DUE.is("hinges(" + engine + ")", x.hinges(engine), x.hinges(0));
            }
        }
    }
}
