/** Many graphs, each asked everything, against what the document's words give when all sets are tried. */
public final class OracleTest {
    private static final Due DUE = new Due();
    private static final int LONG_RUNS = 60;
    private static final int CALLS = 120;
    private static long seed = 20261115L;

    public static void main(String[] args) {
        allSmallGraphs(1, 1);
        allSmallGraphs(2, 17);
        allSmallGraphs(3, 4);
        allSmallGraphs(4, 3);
        allSmallGraphs(5, 2);
        for (int run = 0; run < LONG_RUNS; run++) {
            longRun(run);
        }
        DUE.end();
    }

    /** The same numbers in every run of the test. */
    private static int next(int bound) {
        seed = seed * 6364136223846793005L + 1442695040888963407L;
        return (int) ((seed >>> 33) % bound);
    }

    /** Every graph of n points with less than so many lines between each two. */
    private static void allSmallGraphs(int n, int many) {
        int pairs = n * (n - 1) / 2;
        int graphs = 1;
        for (int i = 0; i < pairs; i++) {
            graphs *= many;
        }
        for (int graph = 0; graph < graphs; graph++) {
            ConnectivitySuite x = new ConnectivitySuite();
            x.begin(n);
            int[] from = new int[16];
            int[] to = new int[16];
            int count = 0;
            int rest = graph;
            for (int a = 0; a < n; a++) {
                for (int b = a + 1; b < n; b++) {
                    for (int i = rest % many; i > 0 && count < 16; i--) {
                        DUE.is("add", x.add(a, b), count);
                        from[count] = a;
                        to[count] = b;
                        count++;
                    }
                    rest /= many;
                }
            }
            compare("graph " + graph + " of " + n, x, new Oracle(n, (1 << count) - 1, from, to));
        }
    }

    /** Adds and removes in turn, wrong calls among them, with the lines kept apart from the class. */
    private static void longRun(int run) {
        ConnectivitySuite x = new ConnectivitySuite();
        int n = 1;
        int lines = 0;
        int[] from = new int[16];
        int[] to = new int[16];
        int begun = 4 + next(5);
        DUE.is("begin", x.begin(begun), true);
        n = begun;
        for (int call = 0; call < CALLS; call++) {
            int kind = next(20);
            if (kind == 0) {
                DUE.is("begin", x.begin(next(2) * 9), false);
            } else if (kind < 7) {
                int k = next(18) - 1;
                boolean there = k >= 0 && k < 16 && ((lines >> k) & 1) == 1;
                DUE.is("remove", x.remove(k), there);
                lines &= there ? ~(1 << k) : -1;
            } else {
                int a = next(n + 1);
                int b = next(n + 1);
                int free = Integer.numberOfTrailingZeros(~lines);
                boolean bad = a == n || b == n || a == b;
                DUE.is("add", x.add(a, b), bad ? ConnectivitySuite.BAD : free == 16 ? ConnectivitySuite.FULL : free);
                if (!bad && free < 16) {
                    from[free] = a;
                    to[free] = b;
                    lines |= 1 << free;
                }
            }
            DUE.is("lines", x.lines(), lines);
            if (call % 40 == 39) {
                compare("run " + run + " call " + call, x, new Oracle(n, lines, from, to));
            }
        }
    }

    private static void compare(String name, ConnectivitySuite x, Oracle due) {
        DUE.is(name + " lines", x.lines(), due.lines);
        for (int engine = 0; engine < 3; engine++) {
            DUE.is(name + " groups(" + engine + ")", x.groups(engine), due.groups());
            DUE.is(name + " bridges(" + engine + ")", x.bridges(engine), due.bridges());
            DUE.is(name + " hinges(" + engine + ")", x.hinges(engine), due.hinges());
            DUE.is(name + " agree(" + engine + ")", x.agree(engine, (engine + 1) % 3), true);
        }
        for (int i = 0; i < 16; i++) {
            DUE.is(name + " block(" + i + ")", x.block(i), due.block(i));
            DUE.is(name + " island(" + i + ")", x.island(i), due.island(i));
            DUE.is(name + " around(" + i + ")", x.around(i), due.around(i));
        }
        DUE.is(name + " weakest", x.weakest(), due.weakest());
        DUE.is(name + " fragile", x.fragile(), due.fragile());
        DUE.is(name + " trees", x.trees(), due.trees());
        DUE.is(name + " shortest", x.shortest(), due.shortest());
        DUE.is(name + " sides", x.sides(), due.sides());
    }
}
