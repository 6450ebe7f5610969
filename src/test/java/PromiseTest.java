/** Each promise of the document in ordinary use, one method each; BoundaryTest has its limits and wrong inputs. */
public final class PromiseTest {
    private static final Due DUE = new Due();
    private static final int BAD = ConnectivitySuite.BAD;
    private static final int FULL = ConnectivitySuite.FULL;
    private static final int NONE = ConnectivitySuite.NONE;

    public static void main(String[] args) {
        newObject();
        begin();
        add();
        remove();
        lines();
        groups();
        bridges();
        hinges();
        agree();
        block();
        island();
        weakest();
        fragile();
        trees();
        shortest();
        around();
        sides();
        refusedCallsChangeNothing();
        DUE.end();
    }

    private static void newObject() {
        ConnectivitySuite x = new ConnectivitySuite();
        DUE.is("1 lines", x.lines(), 0);
        DUE.is("1 groups", x.groups(0), 1);
        DUE.is("1 island(0)", x.island(0), 1);
        DUE.is("1 island(1)", x.island(1), BAD);
        DUE.is("1 add(0, 1)", x.add(0, 1), BAD);
        DUE.is("1 trees", x.trees(), 1);
        ConnectivitySuite y = Graphs.graph(2, "01");
        DUE.is("1 an object of its own", x.lines() + y.lines(), 1);
    }

    private static void begin() {
        for (int n = 1; n <= 8; n++) {
            ConnectivitySuite x = Graphs.graph(8, "01 12 23");
            DUE.is("2 begin(" + n + ")", x.begin(n), true);
            DUE.is("2 lines", x.lines(), 0);
            DUE.is("2 groups", x.groups(0), n);
            DUE.is("2 last point", x.island(n - 1), 1 << (n - 1));
            DUE.is("2 beyond", x.island(n), BAD);
        }
        ConnectivitySuite x = Graphs.graph(3, "01 12");
        DUE.is("2 begin(9)", x.begin(9), false);
        DUE.is("2 lines stay", x.lines(), 3);
    }

    private static void add() {
        ConnectivitySuite x = Graphs.graph(3, "");
        DUE.is("3 first", x.add(0, 2), 0);
        DUE.is("3 the same again", x.add(0, 2), 1);
        DUE.is("3 the same turned", x.add(2, 0), 2);
        DUE.is("3 joins", x.groups(0), 2);
        DUE.is("3 no point", x.add(0, 3), BAD);
        DUE.is("3 the same point", x.add(1, 1), BAD);
        DUE.is("3 nothing added", x.lines(), 7);
        x.remove(2);
        x.remove(0);
        DUE.is("3 least number", x.add(0, 1), 0);
        DUE.is("3 next least number", x.add(0, 1), 2);
        DUE.is("3 next", x.add(0, 1), 3);
        for (int k = 4; k < 16; k++) {
            DUE.is("3 add", x.add(1, 2), k);
        }
        DUE.is("3 full", x.add(1, 2), FULL);
    }

    private static void remove() {
        ConnectivitySuite x = Graphs.graph(3, "01 12 20");
        DUE.is("4 remove(1)", x.remove(1), true);
        DUE.is("4 gone", x.lines(), Graphs.set(0, 2));
        DUE.is("4 remove(1) again", x.remove(1), false);
        DUE.is("4 others stay", x.lines(), Graphs.set(0, 2));
        DUE.is("4 remove(0)", x.remove(0), true);
        DUE.is("4 the points part", x.groups(0), 2);
        x.begin(3);
        DUE.is("4 begin took it", x.remove(2), false);
    }

    private static void lines() {
        ConnectivitySuite x = Graphs.graph(2, "01 01 01");
        DUE.is("5 three", x.lines(), 7);
        x.remove(1);
        DUE.is("5 a gap", x.lines(), 5);
        x.add(1, 0);
        DUE.is("5 the gap is filled", x.lines(), 7);
    }

    private static void findings(String name, ConnectivitySuite x, int groups, int bridges, int hinges) {
        for (int engine = 0; engine < 3; engine++) {
            DUE.is(name + " groups(" + engine + ")", x.groups(engine), groups);
            DUE.is(name + " bridges(" + engine + ")", x.bridges(engine), bridges);
            DUE.is(name + " hinges(" + engine + ")", x.hinges(engine), hinges);
        }
    }

    private static void groups() {
        findings("6 two pairs and a point", Graphs.graph(5, "04 13"), 3, Graphs.set(0, 1), 0);
        findings("6 upwards and downwards", Graphs.graph(8, "76 65 54 43 32 21 10"), 1, 127, 126);
        findings("6 the first point's last line", Graphs.graph(8, "01 12 23 34 45 56 01 12 23 34 45 56 01 12 23 07"),
            1, 1 << 15, Graphs.set(0, 1, 2, 3, 4, 5));
        findings("6 a winding way", Graphs.graph(8, "07 73 35 51 16 64 42"), 1, 127, Graphs.set(1, 3, 4, 5, 6, 7));
        for (int engine = 0; engine < 3; engine++) {
            DUE.is("6 asked first of all, engine " + engine, Graphs.graph(4, "13").groups(engine), 3);
        }
        DUE.is("6 no engine", Graphs.graph(4, "01").groups(3), BAD);
    }

    private static void bridges() {
        findings("7 two lines between two points are no bridges", Graphs.graph(3, "01 10 12"), 1, 4, 2);
        findings("7 a ring has none", Graphs.graph(4, "01 12 23 30"), 1, 0, 0);
        findings("7 in the second group too", Graphs.graph(6, "01 12 20 34 45"), 2, Graphs.set(3, 4), Graphs.set(4));
        findings("7 two rings and a line", Graphs.graph(6, "01 12 20 23 34 45 53"), 1, 8, Graphs.set(2, 3));
        ConnectivitySuite x = Graphs.graph(2, "01 01 01");
        x.remove(0);
        x.remove(2);
        findings("7 the one that stays", x, 1, 2, 0);
        ConnectivitySuite last = Graphs.graph(3, Graphs.times(15, "01") + "12");
        findings("7 the last number", last, 1, 1 << 15, 2);
        for (int engine = 0; engine < 3; engine++) {
            ConnectivitySuite y = Graphs.graph(4, "01 12 20 23");
            DUE.is("7 asked first of all, engine " + engine, y.bridges(engine), 8);
            y.add(3, 0);
            DUE.is("7 and after a change, engine " + engine, y.bridges(engine), 0);
        }
        DUE.is("7 no engine", x.bridges(3), BAD);
    }

    private static void hinges() {
        findings("8 a point alone is none", Graphs.graph(3, "01"), 2, 1, 0);
        findings("8 a star with the root within", Graphs.graph(4, "01 02 03"), 1, 7, 1);
        findings("8 a star with the root outside", Graphs.graph(4, "30 31 32"), 1, 7, 8);
        findings("8 two rings at one point", Graphs.graph(5, "01 12 20 23 34 42"), 1, 0, 4);
        findings("8 two rings at the root", Graphs.graph(5, "01 12 20 03 34 40"), 1, 0, 1);
        findings("8 double lines", Graphs.graph(3, "01 01 12 12"), 1, 0, 2);
        findings("8 the last point", Graphs.graph(8, "70 71 23"), 5, 7, 128);
        findings("8 one point", Graphs.graph(1, ""), 1, 0, 0);
        for (int engine = 0; engine < 3; engine++) {
            ConnectivitySuite y = Graphs.graph(4, "01 12 20 23");
            DUE.is("8 asked first of all, engine " + engine, y.hinges(engine), 4);
            y.add(3, 0);
            DUE.is("8 and after a change, engine " + engine, y.hinges(engine), 0);
        }
        DUE.is("8 no engine", Graphs.graph(3, "01 12").hinges(3), BAD);
    }

    private static void agree() {
        String[] lines = {"", "01", "01 12 23 34 45 56 67", "01 12 20 23 34 45 53 67 67", "70 61 52 43"};
        for (String text : lines) {
            ConnectivitySuite x = Graphs.graph(8, text);
            for (int engine = 0; engine < 3; engine++) {
                for (int other = 0; other < 3; other++) {
                    DUE.is("9 agree(" + engine + ", " + other + ")", x.agree(engine, other), true);
                }
            }
            DUE.is("9 agree(3, 3)", x.agree(3, 3), false);
        }
    }

    private static void block() {
        ConnectivitySuite x = Graphs.graph(5, "01 12 20 23 34 42");
        for (int k = 0; k < 6; k++) {
            DUE.is("10 two rings at one point, block(" + k + ")", x.block(k), k < 3 ? 7 : 56);
        }
        DUE.is("10 two rings at the first point", Graphs.graph(5, "01 12 20 03 34 40").block(1), 7);
        DUE.is("10 two rings at the last point", Graphs.graph(5, "41 12 24 43 30 04").block(1), 7);
        ConnectivitySuite way = Graphs.graph(4, "01 12 23");
        DUE.is("10 a bridge is alone", way.block(1), 2);
        way.add(0, 3);
        DUE.is("10 closed to a ring", way.block(1), 15);
        ConnectivitySuite doubled = Graphs.graph(3, "01 12 01 21");
        DUE.is("10 two between two points", doubled.block(0), 5);
        DUE.is("10 the other two", doubled.block(3), 10);
        ConnectivitySuite joined = Graphs.graph(6, "01 12 20 34 45 53 03 14");
        DUE.is("10 rings over several points", joined.block(2), 255);
        ConnectivitySuite apart = Graphs.graph(6, "01 12 20 34 45 53");
        DUE.is("10 another group", apart.block(4), 56);
        apart.remove(4);
        DUE.is("10 removed", apart.block(4), BAD);
        DUE.is("10 a ring broken", apart.block(3), 8);
    }

    private static void island() {
        ConnectivitySuite x = Graphs.graph(8, "01 12 20 23 34 45 53 67");
        DUE.is("11 first ring", x.island(1), Graphs.set(0, 1, 2));
        DUE.is("11 second ring", x.island(3), Graphs.set(3, 4, 5));
        DUE.is("11 a point between bridges", x.island(6), Graphs.set(6));
        x.add(6, 7);
        DUE.is("11 two lines", x.island(7), Graphs.set(6, 7));
        DUE.is("11 over a hinge", Graphs.graph(5, "01 12 20 23 34 42").island(4), 31);
        DUE.is("11 island(2) of two points", Graphs.graph(2, "01").island(2), BAD);
    }

    private static void weakest() {
        DUE.is("12 one point", Graphs.graph(1, "").weakest(), 0);
        DUE.is("12 two groups", Graphs.graph(4, "01 12 20").weakest(), 0);
        DUE.is("12 a bridge", Graphs.graph(3, "01 12").weakest(), 1);
        DUE.is("12 a ring", Graphs.graph(8, "01 12 23 34 45 56 67 70").weakest(), 2);
        DUE.is("12 three between two", Graphs.graph(2, "01 01 01").weakest(), 3);
        DUE.is("12 sixteen between two", Graphs.graph(2, Graphs.times(16, "01")).weakest(), 16);
        DUE.is("12 all joined", Graphs.graph(4, "01 02 03 12 13 23").weakest(), 3);
        DUE.is("12 within, not at a point", Graphs.graph(6, "01 12 20 01 12 20 34 45 53 34 45 53 03").weakest(), 1);
        DUE.is("12 two lines within", Graphs.graph(6, "01 12 20 01 12 20 34 45 53 34 45 53 03 14").weakest(), 2);
        DUE.is("12 at the last point", Graphs.graph(3, "01 01 01 12 12").weakest(), 2);
    }

    private static void fragile() {
        DUE.is("13 one point", Graphs.graph(1, "").fragile(), 0);
        DUE.is("13 two groups", Graphs.graph(3, "01").fragile(), 0);
        DUE.is("13 two points", Graphs.graph(2, "01 01").fragile(), 1);
        DUE.is("13 a triangle", Graphs.graph(3, "01 12 20").fragile(), 2);
        DUE.is("13 a hinge", Graphs.graph(5, "01 12 20 23 34 42").fragile(), 1);
        DUE.is("13 a ring", Graphs.graph(8, "01 12 23 34 45 56 67 70").fragile(), 2);
        DUE.is("13 all joined", Graphs.graph(6, "01 02 03 04 05 12 13 14 15 23 24 25 34 35 45").fragile(), 5);
        DUE.is("13 one line less", Graphs.graph(6, "02 03 04 05 12 13 14 15 23 24 25 34 35 45").fragile(), 4);
        DUE.is("13 three against three", Graphs.graph(6, "03 04 05 13 14 15 23 24 25").fragile(), 3);
        DUE.is("13 a crossed ring", Graphs.graph(8, "01 12 23 34 45 56 67 70 04 15 26 37").fragile(), 3);
    }

    private static void trees() {
        DUE.is("14 one point", Graphs.graph(1, "").trees(), 1);
        DUE.is("14 two groups", Graphs.graph(2, "").trees(), 0);
        DUE.is("14 the first point alone", Graphs.graph(3, "12").trees(), 0);
        DUE.is("14 the last point alone", Graphs.graph(4, "01 12 20").trees(), 0);
        DUE.is("14 two pairs", Graphs.graph(4, "02 13").trees(), 0);
        DUE.is("14 a tree", Graphs.graph(8, "01 12 23 34 45 56 67").trees(), 1);
        DUE.is("14 a ring", Graphs.graph(8, "01 12 23 34 45 56 67 70").trees(), 8);
        DUE.is("14 double lines", Graphs.graph(3, "01 01 12 12 12").trees(), 6);
        DUE.is("14 all joined", Graphs.graph(6, "01 02 03 04 05 12 13 14 15 23 24 25 34 35 45").trees(), 1296);
        DUE.is("14 four against four", Graphs.fullOfEightEven().trees(), 4096);
        ConnectivitySuite x = Graphs.graph(3, "01 12 20");
        DUE.is("14 three", x.trees(), 3);
        DUE.is("14 asked again", x.trees(), 3);
        x.remove(0);
        DUE.is("14 one line less", x.trees(), 1);
    }

    private static void shortest() {
        DUE.is("15 no lines", Graphs.graph(8, "").shortest(), NONE);
        DUE.is("15 no ring", Graphs.graph(4, "01 12 13").shortest(), NONE);
        DUE.is("15 two lines", Graphs.graph(5, "01 12 20 34 34").shortest(), 2);
        DUE.is("15 the last is least", Graphs.graph(8, "01 12 23 30 45 56 64").shortest(), 3);
        DUE.is("15 the first is least", Graphs.graph(8, "01 12 20 34 45 56 67 73").shortest(), 3);
        DUE.is("15 a line without a ring behind it", Graphs.graph(4, "01 12 20 23").shortest(), 3);
        DUE.is("15 a line without a ring before it", Graphs.graph(4, "23 01 12 20").shortest(), 3);
        DUE.is("15 eight", Graphs.graph(8, "01 12 23 34 45 56 67 70").shortest(), 8);
        DUE.is("15 cut off by a chord", Graphs.graph(8, "01 12 23 34 45 56 67 70 04").shortest(), 5);
    }

    private static void around() {
        ConnectivitySuite x = Graphs.graph(8, "01 12 23 34 45 56 67 70 13");
        DUE.is("16 the long way", x.around(0), 7);
        DUE.is("16 the short way", x.around(1), 3);
        DUE.is("16 the chord", x.around(8), 3);
        x.remove(8);
        DUE.is("16 all eight", x.around(1), 8);
        x.remove(7);
        DUE.is("16 none", x.around(1), NONE);
        DUE.is("16 removed", x.around(7), BAD);
        DUE.is("16 two lines", Graphs.graph(2, "01 10").around(1), 2);
        ConnectivitySuite lasso = Graphs.graph(5, "01 12 23 34 42");
        DUE.is("16 a line that leads to a ring has none", lasso.around(0), NONE);
        DUE.is("16 the ring behind it", lasso.around(4), 3);
    }

    private static void sides() {
        DUE.is("17 one point", Graphs.graph(1, "").sides(), 1);
        DUE.is("17 points alone", Graphs.graph(8, "").sides(), 255);
        DUE.is("17 a way", Graphs.graph(4, "01 12 23").sides(), Graphs.set(0, 2));
        DUE.is("17 a way that winds", Graphs.graph(4, "03 32 21").sides(), Graphs.set(0, 2));
        DUE.is("17 each group has its least point", Graphs.graph(6, "05 41 43").sides(), Graphs.set(0, 1, 2, 3));
        DUE.is("17 an even ring", Graphs.graph(4, "01 12 23 30").sides(), Graphs.set(0, 2));
        DUE.is("17 double lines", Graphs.graph(2, "01 01 01").sides(), 1);
        DUE.is("17 a triangle", Graphs.graph(3, "01 12 20").sides(), NONE);
        DUE.is("17 an odd ring in another group", Graphs.graph(8, "01 23 34 45 56 62").sides(), NONE);
        DUE.is("17 a long way", Graphs.graph(8, "01 12 23 34 45 56 67").sides(), Graphs.set(0, 2, 4, 6));
        DUE.is("17 an odd ring of seven", Graphs.graph(8, "01 12 23 34 45 56 60").sides(), NONE);
    }

    private static void refusedCallsChangeNothing() {
        ConnectivitySuite full = Graphs.graph(7, "01 12 20 23 34 45 53 56 " + Graphs.times(8, "12"));
        int[] before = Graphs.look(full);
        DUE.same("18 asking changes nothing", Graphs.look(full), before);
        DUE.is("18 no room", full.add(0, 6), FULL);
        DUE.is("18 no points", full.begin(0), false);
        DUE.same("18 refused calls change nothing", Graphs.look(full), before);
        ConnectivitySuite eight = Graphs.graph(5, "01 12 20 23 34 42");
        DUE.is("18 a ring is only once where it begins", eight.block(0), 7);
        DUE.is("18 and so is the least ring", eight.around(0), 3);
        ConnectivitySuite way = Graphs.graph(3, "01 12");
        DUE.is("18 there and back is no ring", way.shortest(), NONE);
    }
}
