import java.util.List;
import java.util.function.Supplier;

/** Graphs to ask, and a look at everything that can be asked of one. */
final class Graphs {
    static final int ALL_LINES = 65535;

    private Graphs() {
    }

    /** A graph of n points with the lines given as digits: "01 12" joins 0 to 1 and 1 to 2. */
    static ConnectivitySuite graph(int n, String lines) {
        ConnectivitySuite x = new ConnectivitySuite();
        x.begin(n);
        for (String line : lines.split(" ")) {
            if (line.length() == 2) {
                x.add(line.charAt(0) - '0', line.charAt(1) - '0');
            }
        }
        return x;
    }

    /** A way along all n points: "01 12 23" and so on. */
    static String way(int n) {
        StringBuilder lines = new StringBuilder();
        for (int p = 1; p < n; p++) {
            lines.append(p - 1).append(p).append(' ');
        }
        return lines.toString();
    }

    /** A ring through all n points. */
    static String ring(int n) {
        return way(n) + (n - 1) + "0";
    }

    /** Each two of n points joined by one line; there is room for this up to six points. */
    static String allJoined(int n) {
        StringBuilder lines = new StringBuilder();
        for (int a = 0; a < n; a++) {
            for (int b = a + 1; b < n; b++) {
                lines.append(a).append(b).append(' ');
            }
        }
        return lines.toString();
    }

    static String times(int count, String line) {
        return (line + " ").repeat(count);
    }

    static int set(int... numbers) {
        int set = 0;
        for (int i : numbers) {
            set |= 1 << i;
        }
        return set;
    }

    static ConnectivitySuite fullOfTwo() {
        return graph(2, times(16, "01"));
    }

    static ConnectivitySuite fullOfEight() {
        return graph(8, ring(8) + " 02 24 46 13 35 57 04 15");
    }

    /** Four points against four: as firm as sixteen lines can make eight points. */
    static ConnectivitySuite fullOfEightEven() {
        return graph(8, "04 05 06 07 14 15 16 17 24 25 26 27 34 35 36 37");
    }

    /** Rings, bridges, a point alone, and numbers that are free below and between the taken ones. */
    static ConnectivitySuite withGaps() {
        ConnectivitySuite x = graph(7, "06 01 12 20 06 23 34 45 53");
        x.remove(0);
        x.remove(4);
        return x;
    }

    /** Makers of objects in states that lie at the limits, and of one that does not. */
    static List<Supplier<ConnectivitySuite>> states() {
        return List.of(
            ConnectivitySuite::new,
            () -> graph(1, ""),
            () -> graph(2, ""),
            () -> graph(8, ""),
            () -> graph(8, ring(8)),
            Graphs::fullOfTwo,
            Graphs::fullOfEight,
            Graphs::withGaps);
    }

    /** Every answer that can be had without changing the graph; some seventy calls. */
    static int[] look(ConnectivitySuite x) {
        int[] seen = new int[66];
        int at = 0;
        seen[at++] = x.lines();
        for (int engine = 0; engine < 3; engine++) {
            seen[at++] = x.groups(engine);
            seen[at++] = x.bridges(engine);
            seen[at++] = x.hinges(engine);
            seen[at++] = x.agree(engine, (engine + 1) % 3) ? 1 : 0;
        }
        for (int i = 0; i < 16; i++) {
            seen[at++] = x.block(i);
            seen[at++] = x.island(i);
            seen[at++] = x.around(i);
        }
        seen[at++] = x.weakest();
        seen[at++] = x.fragile();
        seen[at++] = x.trees();
        seen[at++] = x.shortest();
        seen[at++] = x.sides();
        return seen;
    }
}
