public final class ConnectivitySuite {
    public static final int BAD = -1;
    public static final int FULL = -2;
    public static final int NONE = -3;

    private static final int MAX_POINTS = 8;
    private static final int MAX_LINES = 16;
    private static final int POINT_SETS = 256;
    private static final int TABLE_CELLS = 64;

    private static final int FLOOD = 0;
    private static final int WALK = 1;
    private static final int CUTS = 2;

    // A partition has, for each point, the least point of its group, in this many bits.
    private static final int LABEL_BITS = 4;
    private static final long LABEL_MASK = 15L;

    private static final int UNMET = 0;
    private static final int NO_LINE = -1;
    // Each point looks once at every line and is left once.
    private static final int WALK_STEPS = 136;

    private int points;
    private int lineSet;
    // The two points of each line, as a set: no answer tells one end from the other.
    private final int[] ends = new int[MAX_LINES];

    private final int[] order = new int[MAX_POINTS];
    private final int[] low = new int[MAX_POINTS];
    private final int[] cameFrom = new int[MAX_POINTS];
    private final int[] cameBy = new int[MAX_POINTS];
    private final int[] nextLine = new int[MAX_POINTS];
    private final int[] rootOf = new int[MAX_POINTS];
    private int met;
    private int rootBranches;
    private int walkedBridges;
    private int walkedHinges;

    private final long[] table = new long[TABLE_CELLS];

    public ConnectivitySuite() {
        points = 1;
        lineSet = 0;
    }

    public boolean begin(int n) {
        if (n < 1 || n > MAX_POINTS) {
            return false;
        }
        points = n;
        lineSet = 0;
        return true;
    }

    public int add(int a, int b) {
        if (!isPoint(a) || !isPoint(b) || a == b) {
            return BAD;
        }
        for (int k = 0; k < MAX_LINES; k++) {
            if (!isLine(k)) {
                ends[k] = (1 << a) | (1 << b);
                lineSet |= 1 << k;
                return k;
            }
        }
        return FULL;
    }

    public boolean remove(int k) {
        if (!isLine(k)) {
            return false;
        }
        lineSet &= ~(1 << k);
        return true;
    }

    public int lines() {
        return lineSet;
    }

    public int groups(int engine) {
        if (!isEngine(engine)) {
            return BAD;
        }
        long partition = partitionBy(engine);
        int count = 0;
        for (int p = 0; p < points; p++) {
            if (((partition >> (p * LABEL_BITS)) & LABEL_MASK) == p) {
                count++;
            }
        }
        return count;
    }

    public int bridges(int engine) {
        return isEngine(engine) ? bridgesBy(engine) : BAD;
    }

    public int hinges(int engine) {
        return isEngine(engine) ? hingesBy(engine) : BAD;
    }

    public boolean agree(int engine, int other) {
        if (!isEngine(engine) || !isEngine(other)) {
            return false;
        }
        return partitionBy(engine) == partitionBy(other)
            && bridgesBy(engine) == bridgesBy(other)
            && hingesBy(engine) == hingesBy(other);
    }

    public int block(int k) {
        if (!isLine(k)) {
            return BAD;
        }
        int found = 1 << k;
        for (int j = 0; j < MAX_LINES; j++) {
            if (isLine(j) && !partedByPoint(ends[k], ends[j])) {
                found |= 1 << j;
            }
        }
        return found;
    }

    public int island(int p) {
        if (!isPoint(p)) {
            return BAD;
        }
        int firm = lineSet & ~floodBridges();
        int all = allPoints();
        return spread(1 << p, all, firm);
    }

    public int weakest() {
        int all = allPoints();
        if (points == 1 || countGroups(all, lineSet) > 1) {
            return 0;
        }
        int least = MAX_LINES;
        // To part one group, all lines between two sides of it must go.
        for (int set = 1; set < POINT_SETS; set++) {
            if (set < all) {
                int crossed = crossing(set, all);
                int size = countBits(crossed);
                least = size < least ? size : least;
            }
        }
        return least;
    }

    public int fragile() {
        int all = allPoints();
        if (points == 1 || countGroups(all, lineSet) > 1) {
            return 0;
        }
        // Only one point is left when all others go.
        int least = points - 1;
        for (int gone = 1; gone < POINT_SETS; gone++) {
            if (gone < all) {
                int size = countBits(gone);
                if (size < least && countGroups(all & ~gone, lineSet) > 1) {
                    least = size;
                }
            }
        }
        return least;
    }

    public int trees() {
        fillTable();
        return (int) determinant(points - 1);
    }

    public int shortest() {
        int least = NONE;
        for (int k = 0; k < MAX_LINES; k++) {
            if (isLine(k)) {
                int length = leastRing(k);
                if (length != NONE && (least == NONE || length < least)) {
                    least = length;
                }
            }
        }
        return least;
    }

    public int around(int k) {
        return isLine(k) ? leastRing(k) : BAD;
    }

    public int sides() {
        int all = allPoints();
        int near = 0;
        int placed = 0;
        for (int p = 0; p < points; p++) {
            // Points are tried upwards, so the first one met of a group is its least.
            if (((placed >> p) & 1) == 0) {
                near |= evenPoints(1 << p);
                placed |= spread(1 << p, all, lineSet);
            }
        }
        return crossing(near, all) == lineSet ? near : NONE;
    }

    private boolean isPoint(int p) {
        return p >= 0 && p < points;
    }

    private boolean isLine(int k) {
        return k >= 0 && k < MAX_LINES && ((lineSet >> k) & 1) == 1;
    }

    private static boolean isEngine(int engine) {
        return engine == FLOOD || engine == WALK || engine == CUTS;
    }

    private int allPoints() {
        return (1 << points) - 1;
    }

    private static int countBits(int set) {
        int count = 0;
        for (int i = 0; i < MAX_LINES; i++) {
            count += (set >> i) & 1;
        }
        return count;
    }

    private static int lowest(int set) {
        for (int i = 0; i < MAX_POINTS; i++) {
            if (((set >> i) & 1) == 1) {
                return i;
            }
        }
        return 0;
    }

    private long partitionBy(int engine) {
        if (engine == WALK) {
            walkAll();
        }
        long partition = 0;
        for (int p = 0; p < points; p++) {
            long label = leastOfGroup(engine, p);
            partition |= label << (p * LABEL_BITS);
        }
        return partition;
    }

    // Engine WALK must have walked before.
    private int leastOfGroup(int engine, int p) {
        if (engine == WALK) {
            return rootOf[p];
        }
        int all = allPoints();
        int group = engine == FLOOD ? spread(1 << p, all, lineSet) : leastClosed(p, all);
        return lowest(group);
    }

    private int bridgesBy(int engine) {
        if (engine == FLOOD) {
            return floodBridges();
        }
        if (engine == CUTS) {
            return cutBridges();
        }
        walkAll();
        return walkedBridges;
    }

    private int hingesBy(int engine) {
        if (engine == FLOOD) {
            return floodHinges();
        }
        if (engine == CUTS) {
            return cutHinges();
        }
        walkAll();
        return walkedHinges;
    }

    // Engine FLOOD: takes a line or a point away, spreads from point to point, and counts anew.

    private int spread(int start, int kept, int used) {
        int reached = start & kept;
        // A round that reaches nothing new is followed by none that does, so one for each
        // point but the first is enough.
        for (int round = 1; round < MAX_POINTS; round++) {
            for (int k = 0; k < MAX_LINES; k++) {
                boolean open = ((used >> k) & 1) == 1 && (ends[k] & ~kept) == 0;
                if (open && (ends[k] & reached) != 0) {
                    reached |= ends[k];
                }
            }
        }
        return reached;
    }

    private int countGroups(int kept, int used) {
        int count = 0;
        int rest = kept;
        for (int p = 0; p < MAX_POINTS; p++) {
            if (((rest >> p) & 1) == 1) {
                rest &= ~spread(1 << p, kept, used);
                count++;
            }
        }
        return count;
    }

    private int floodBridges() {
        int all = allPoints();
        int now = countGroups(all, lineSet);
        int found = 0;
        for (int k = 0; k < MAX_LINES; k++) {
            if (isLine(k) && countGroups(all, lineSet & ~(1 << k)) > now) {
                found |= 1 << k;
            }
        }
        return found;
    }

    private int floodHinges() {
        int all = allPoints();
        int now = countGroups(all, lineSet);
        int found = 0;
        for (int p = 0; p < points; p++) {
            if (countGroups(all & ~(1 << p), lineSet) > now) {
                found |= 1 << p;
            }
        }
        return found;
    }

    // Engine WALK: one walk into the depth, which keeps for each point the earliest point
    // that can be met again from beyond it.

    private void walkAll() {
        met = 0;
        walkedBridges = 0;
        walkedHinges = 0;
        for (int p = 0; p < MAX_POINTS; p++) {
            order[p] = UNMET;
        }
        for (int p = 0; p < points; p++) {
            if (order[p] == UNMET) {
                walkFrom(p);
            }
        }
    }

    private void walkFrom(int root) {
        rootBranches = 0;
        int at = root;
        meet(root, root, NO_LINE, root);
        for (int step = 0; step < WALK_STEPS; step++) {
            int k = nextLine[at];
            if (k < MAX_LINES) {
                nextLine[at] = k + 1;
                if (leadsOn(at, k)) {
                    int there = lowest(ends[k] & ~(1 << at));
                    if (order[there] == UNMET) {
                        meet(there, at, k, root);
                        at = there;
                    } else if (order[there] < low[at]) {
                        low[at] = order[there];
                    }
                }
            } else if (at == root) {
                break;
            } else {
                leave(at, root);
                at = cameFrom[at];
            }
        }
    }

    private void meet(int p, int from, int by, int root) {
        met++;
        order[p] = met;
        low[p] = met;
        cameFrom[p] = from;
        cameBy[p] = by;
        nextLine[p] = 0;
        rootOf[p] = root;
    }

    // The line that was come by is no way back, but another one between the same points is.
    private boolean leadsOn(int at, int k) {
        boolean touches = ((lineSet >> k) & 1) == 1 && ((ends[k] >> at) & 1) == 1;
        return touches && k != cameBy[at];
    }

    private void leave(int p, int root) {
        int up = cameFrom[p];
        if (low[p] < low[up]) {
            low[up] = low[p];
        }
        if (low[p] > order[up]) {
            walkedBridges |= 1 << cameBy[p];
        }
        if (up == root) {
            rootBranches++;
        }
        // Nothing lies before the root, so it parts only what it entered separately.
        boolean parts = up == root ? rootBranches > 1 : low[p] >= order[up];
        if (parts) {
            walkedHinges |= 1 << up;
        }
    }

    // Engine CUTS: looks at every set of points and at the lines that leave it. A set that no
    // line leaves is closed: it is made of whole groups.

    private int crossing(int set, int kept) {
        int crossed = 0;
        for (int k = 0; k < MAX_LINES; k++) {
            boolean open = ((lineSet >> k) & 1) == 1 && (ends[k] & ~kept) == 0;
            if (open && (ends[k] & set) != 0 && (ends[k] & ~set) != 0) {
                crossed |= 1 << k;
            }
        }
        return crossed;
    }

    // With g groups there are 2^g closed sets, so more of them means more groups.
    private int closedSets(int kept) {
        int count = 0;
        for (int set = 0; set < POINT_SETS; set++) {
            if ((set & ~kept) == 0 && crossing(set, kept) == 0) {
                count++;
            }
        }
        return count;
    }

    private int leastClosed(int p, int all) {
        int least = all;
        for (int set = 0; set < POINT_SETS; set++) {
            boolean holds = ((set >> p) & 1) == 1 && (set & ~all) == 0;
            if (holds && crossing(set, all) == 0) {
                least &= set;
            }
        }
        return least;
    }

    private int cutBridges() {
        int all = allPoints();
        int found = 0;
        for (int set = 0; set < POINT_SETS; set++) {
            if ((set & ~all) == 0) {
                int crossed = crossing(set, all);
                if (countBits(crossed) == 1) {
                    found |= crossed;
                }
            }
        }
        return found;
    }

    private int cutHinges() {
        int all = allPoints();
        int now = closedSets(all);
        int found = 0;
        for (int p = 0; p < points; p++) {
            if (closedSets(all & ~(1 << p)) > now) {
                found |= 1 << p;
            }
        }
        return found;
    }

    // A ring through two lines is two ways between their ends that share no point; by Menger's
    // theorem there are two such ways unless one point, taken away, parts the ends.
    private boolean partedByPoint(int someEnds, int otherEnds) {
        int all = allPoints();
        for (int p = 0; p < points; p++) {
            int kept = all & ~(1 << p);
            int reached = spread(someEnds, kept, lineSet);
            if ((reached & otherEnds) == 0) {
                return true;
            }
        }
        return false;
    }

    // The points at one more line's distance come in only after the whole layer before them.
    private int widen(int reached, int used) {
        int wider = reached;
        for (int k = 0; k < MAX_LINES; k++) {
            if (((used >> k) & 1) == 1 && (ends[k] & reached) != 0) {
                wider |= ends[k];
            }
        }
        return wider;
    }

    // The least ring with a line is that line and the least way between its ends without it.
    private int leastRing(int k) {
        int start = lowest(ends[k]);
        int goal = ends[k] & ~(1 << start);
        int others = lineSet & ~(1 << k);
        int reached = 1 << start;
        for (int length = 2; length <= MAX_POINTS; length++) {
            reached = widen(reached, others);
            if ((reached & goal) != 0) {
                return length;
            }
        }
        return NONE;
    }

    // Layers lie on the two sides in turn; a line inside a layer is found by the caller.
    private int evenPoints(int start) {
        int even = start;
        int reached = start;
        for (int distance = 1; distance < MAX_POINTS; distance++) {
            int wider = widen(reached, lineSet);
            if ((distance & 1) == 0) {
                even |= wider & ~reached;
            }
            reached = wider;
        }
        return even;
    }

    // Kirchhoff's table: its determinant without one point's row and column counts the trees.
    private void fillTable() {
        for (int i = 0; i < TABLE_CELLS; i++) {
            table[i] = 0;
        }
        for (int k = 0; k < MAX_LINES; k++) {
            if (isLine(k)) {
                int a = lowest(ends[k]);
                int b = lowest(ends[k] & ~(1 << a));
                table[a * MAX_POINTS + a]++;
                table[b * MAX_POINTS + b]++;
                table[a * MAX_POINTS + b]--;
                table[b * MAX_POINTS + a]--;
            }
        }
    }

    // Bareiss's elimination stays in whole numbers: each division comes out even.
    private long determinant(int size) {
        long before = 1;
        for (int d = 0; d < size; d++) {
            long pivot = table[d * MAX_POINTS + d];
            // No row need be exchanged: in this kind of table a zero here makes the whole zero.
            if (pivot == 0) {
                return 0;
            }
            for (int i = d + 1; i < size; i++) {
                long factor = table[i * MAX_POINTS + d];
                for (int j = d + 1; j < size; j++) {
                    long cell = table[i * MAX_POINTS + j] * pivot;
                    long taken = factor * table[d * MAX_POINTS + j];
                    table[i * MAX_POINTS + j] = (cell - taken) / before;
                }
            }
            before = pivot;
        }
        return before;
    }
}
