/** The document's terms in their own words, tried over all sets: slow, plain, and apart from the class. */
final class Oracle {
    final int points;
    final int lines;
    private final int[] from;
    private final int[] to;
    private final boolean[] ring = new boolean[1 << 16];

    Oracle(int points, int lines, int[] from, int[] to) {
        this.points = points;
        this.lines = lines;
        this.from = from;
        this.to = to;
        for (int set = lines; set != 0; set = (set - 1) & lines) {
            ring[set] = isRing(set);
        }
    }

    private int all() {
        return (1 << points) - 1;
    }

    private static boolean has(int set, int i) {
        return ((set >> i) & 1) == 1;
    }

    /** Names for the groups of the kept points: two points have the same name when a way joins them. */
    private int[] names(int kept, int used) {
        int[] name = new int[8];
        for (int p = 0; p < 8; p++) {
            name[p] = p;
        }
        for (int k = 0; k < 16; k++) {
            if (has(used, k) && has(kept, from[k]) && has(kept, to[k])) {
                int old = name[to[k]];
                int now = name[from[k]];
                for (int p = 0; p < 8; p++) {
                    name[p] = name[p] == old ? now : name[p];
                }
            }
        }
        return name;
    }

    private int groups(int kept, int used) {
        int[] name = names(kept, used);
        int seen = 0;
        for (int p = 0; p < 8; p++) {
            seen |= has(kept, p) ? 1 << name[p] : 0;
        }
        return Integer.bitCount(seen);
    }

    /** The lines of a ring: two at each of its points, and all of them hang together. */
    private boolean isRing(int set) {
        int[] degree = new int[8];
        int touched = 0;
        for (int k = 0; k < 16; k++) {
            if (has(set, k)) {
                degree[from[k]]++;
                degree[to[k]]++;
                touched |= 1 << from[k] | 1 << to[k];
            }
        }
        for (int p = 0; p < 8; p++) {
            if (degree[p] != 0 && degree[p] != 2) {
                return false;
            }
        }
        return groups(touched, set) == 1;
    }

    int groups() {
        return groups(all(), lines);
    }

    int bridges() {
        int found = 0;
        for (int k = 0; k < 16; k++) {
            found |= has(lines, k) && groups(all(), lines & ~(1 << k)) > groups() ? 1 << k : 0;
        }
        return found;
    }

    int hinges() {
        int found = 0;
        for (int p = 0; p < points; p++) {
            found |= groups(all() & ~(1 << p), lines) > groups() ? 1 << p : 0;
        }
        return found;
    }

    int block(int k) {
        if (!has(lines, k)) {
            return ConnectivitySuite.BAD;
        }
        int found = 1 << k;
        for (int set = lines; set != 0; set = (set - 1) & lines) {
            found |= ring[set] && has(set, k) ? set : 0;
        }
        return found;
    }

    int island(int p) {
        if (p >= points) {
            return ConnectivitySuite.BAD;
        }
        int[] name = names(all(), lines & ~bridges());
        int found = 0;
        for (int q = 0; q < points; q++) {
            found |= name[q] == name[p] ? 1 << q : 0;
        }
        return found;
    }

    int weakest() {
        if (points == 1 || groups() > 1) {
            return 0;
        }
        int least = 16;
        for (int set = lines; set != 0; set = (set - 1) & lines) {
            if (Integer.bitCount(set) < least && groups(all(), lines & ~set) > groups()) {
                least = Integer.bitCount(set);
            }
        }
        return least;
    }

    int fragile() {
        if (points == 1 || groups() > 1) {
            return 0;
        }
        int least = 8;
        for (int gone = 0; gone <= all(); gone++) {
            int kept = all() & ~gone;
            if (Integer.bitCount(kept) == 1 || groups(kept, lines) > 1) {
                least = Math.min(least, Integer.bitCount(gone));
            }
        }
        return least;
    }

    int trees() {
        int count = 0;
        int set = lines;
        for (boolean more = true; more; set = (set - 1) & lines) {
            count += Integer.bitCount(set) == points - 1 && groups(all(), set) == 1 ? 1 : 0;
            more = set != 0;
        }
        return count;
    }

    int shortest() {
        return leastRing(0);
    }

    int around(int k) {
        return has(lines, k) ? leastRing(1 << k) : ConnectivitySuite.BAD;
    }

    private int leastRing(int with) {
        int least = 99;
        for (int set = lines; set != 0; set = (set - 1) & lines) {
            if (ring[set] && (set & with) == with) {
                least = Math.min(least, Integer.bitCount(set));
            }
        }
        return least == 99 ? ConnectivitySuite.NONE : least;
    }

    int sides() {
        int[] name = names(all(), lines);
        for (int set = 0; set <= all(); set++) {
            boolean fits = true;
            for (int k = 0; k < 16; k++) {
                fits &= !has(lines, k) || has(set, from[k]) != has(set, to[k]);
            }
            for (int p = 0; p < points; p++) {
                boolean least = true;
                for (int q = 0; q < p; q++) {
                    least &= name[q] != name[p];
                }
                fits &= !least || has(set, p);
            }
            if (fits) {
                return set;
            }
        }
        return ConnectivitySuite.NONE;
    }
}
