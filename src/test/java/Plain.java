import java.math.BigInteger;

/** What the document says, reckoned anew in the plainest and slowest way from what an object tells of itself. */
final class Plain {
    int week;
    int students;
    final int[] kind = new int[6];
    final int[] figure = new int[6];
    final boolean[] in = new boolean[6];
    int errors;
    final int[] by = new int[13];
    final int[] topic = new int[13];
    final int[] size = new int[13];
    final int[] citing = new int[13];
    final boolean[] corrected = new boolean[13];

    static Plain of(DegreeInMistakes x) {
        Plain p = new Plain();
        p.week = x.count(2);
        p.students = x.count(0);
        for (int s = 0; s < p.students; s++) {
            p.kind[s] = x.student(s, 0);
            p.figure[s] = x.student(s, 1);
            p.in[s] = x.student(s, 2) == 1;
        }
        p.errors = x.count(1);
        for (int e = 0; e < p.errors; e++) {
            p.by[e] = x.error(e, 0);
            p.topic[e] = x.error(e, 1);
            p.size[e] = x.error(e, 2);
            p.citing[e] = x.error(e, 3);
            p.corrected[e] = x.error(e, 4) == 1;
        }
        return p;
    }

    Plain same() {
        Plain p = new Plain();
        p.week = week;
        p.students = students;
        p.errors = errors;
        for (int s = 0; s < 6; s++) {
            p.kind[s] = kind[s];
            p.figure[s] = figure[s];
            p.in[s] = in[s];
        }
        for (int e = 0; e < 13; e++) {
            p.by[e] = by[e];
            p.topic[e] = topic[e];
            p.size[e] = size[e];
            p.citing[e] = citing[e];
            p.corrected[e] = corrected[e];
        }
        return p;
    }

    static int ripens(int kind, int figure, int week) {
        int freshman = week % 2 == 0 ? 0 : 1;
        return new int[] {1, 2, freshman, 4, freshman + figure / 3, 3, 2, 0}[kind];
    }

    int cited(int e) {
        int c = 0;
        for (int x = 0; x < errors; x++) {
            c += citing[x] == e ? 1 : 0;
        }
        return c;
    }

    int novelty(int e) {
        int v = 99;
        for (int x = 0; x < errors; x++) {
            if (x != e && topic[x] == topic[e]) {
                v = Math.min(v, Math.abs(size[x] - size[e]));
            }
        }
        return v;
    }

    int marked(int e) {
        if (corrected[e]) {
            return 0;
        }
        int s = size[e];
        int c = cited(e);
        int v = novelty(e);
        int f = figure[by[e]];
        return new int[] {s, s + 2 * c, s / 2, s + 2 * c + v, s / 2 + v, s + 2 * c + f, 2 * v, 0}[kind[by[e]]];
    }

    int marks(int s) {
        int m = 0;
        for (int e = 0; e < errors; e++) {
            m += by[e] == s ? marked(e) : 0;
        }
        return m;
    }

    int allMarks() {
        int m = 0;
        for (int s = 0; s < students; s++) {
            m += marks(s);
        }
        return m;
    }

    int rank(int s) {
        int r = 0;
        for (int o = 0; o < students; o++) {
            if (marks(o) > marks(s) || marks(o) == marks(s) && o < s) {
                r++;
            }
        }
        return r;
    }

    Plain on(int n) {
        Plain p = same();
        for (int i = 0; i < n; i++) {
            p.week++;
            for (int e = 0; e < errors; e++) {
                if (!corrected[e] && in[by[e]]) {
                    p.size[e] = Math.min(99, p.size[e] + ripens(kind[by[e]], figure[by[e]], p.week));
                }
            }
        }
        return p;
    }

    Plain more(int s, int t, int z, int c) {
        Plain p = same();
        p.by[errors] = s;
        p.topic[errors] = t;
        p.size[errors] = z;
        p.citing[errors] = c;
        p.errors++;
        return p;
    }

    int first() {
        for (int s = 0; s < students; s++) {
            if (rank(s) == 0) {
                return s;
            }
        }
        return -4;
    }

    int firstWhen(int s) {
        for (int n = 0; n <= 60; n++) {
            if (on(n).rank(s) == 0) {
                return n;
            }
        }
        return -4;
    }

    int degree(int s, int v) {
        for (int n = 0; n <= 60; n++) {
            if (on(n).marks(s) >= v) {
                return n;
            }
        }
        return -4;
    }

    int next(int s) {
        if (!in[s] || errors == 12) {
            return -4;
        }
        int best = -4;
        int most = -1;
        for (int code = 0; code < 600; code++) {
            int m = more(s, code / 100, code % 100, 99).marks(s);
            if (m > most) {
                most = m;
                best = code;
            }
        }
        return best;
    }

    int cite(int s, int other) {
        if (!in[s]) {
            return -3;
        }
        int best = -4;
        int most = -1;
        for (int e = 0; e < errors && errors < 12; e++) {
            int m = more(s, 0, 0, e).marks(other);
            if (m > most) {
                most = m;
                best = e;
            }
        }
        return best;
    }

    int correct(int s, int other) {
        int best = -4;
        int least = rank(other);
        for (int e = 0; e < errors && in[s]; e++) {
            if (!corrected[e] && by[e] != s) {
                Plain p = same();
                p.corrected[e] = true;
                p.size[e] /= 2;
                if (p.rank(other) < least) {
                    least = p.rank(other);
                    best = e;
                }
            }
        }
        return best;
    }

    boolean citesInTheEnd(int x, int e) {
        return citing[x] != 99 && (citing[x] == e || citesInTheEnd(citing[x], e));
    }

    int inTheEnd(int e) {
        int c = 0;
        for (int x = 0; x < errors; x++) {
            c += citesInTheEnd(x, e) ? 1 : 0;
        }
        return c;
    }

    int depth(int e) {
        return citing[e] == 99 ? 1 : 1 + depth(citing[e]);
    }

    double worth(int e) {
        double w = 1;
        for (int x = 0; x < errors; x++) {
            if (citing[x] == e) {
                w += worth(x) / 2;
            }
        }
        return w;
    }

    int[] votes() {
        int[] v = new int[6];
        for (int s = 0; s < students; s++) {
            int whom = voteOf(s);
            if (whom >= 0) {
                v[whom]++;
            }
        }
        return v;
    }

    int voteOf(int voter) {
        int whom = -1;
        for (int o = students - 1; o >= 0 && in[voter]; o--) {
            if (o != voter && in[o] && (whom < 0 || marks(o) >= marks(whom))) {
                whom = o;
            }
        }
        return whom;
    }

    int elected(int[] v) {
        int best = -4;
        for (int s = students - 1; s >= 0; s--) {
            if (in[s] && (best < 0 || v[s] >= v[best])) {
                best = s;
            }
        }
        return best;
    }

    /** Tries every set of votes that might be counted for him. */
    int slips(int s) {
        if (!in[s]) {
            return -4;
        }
        int fewest = 99;
        for (int set = 0; set < 1 << students; set++) {
            int[] v = new int[6];
            boolean can = true;
            for (int voter = 0; voter < students; voter++) {
                int whom = voteOf(voter);
                boolean slip = (set >> voter & 1) == 1;
                can &= !slip || whom >= 0 && whom != s;
                if (whom >= 0) {
                    v[slip ? s : whom]++;
                }
            }
            if (can && elected(v) == s) {
                fewest = Math.min(fewest, Integer.bitCount(set));
            }
        }
        return fewest;
    }

    /** Fills who marks each ERROR from e on, the first way that marks as many as can be; answers how many. */
    int examine(int e, int busy, int[] who) {
        if (e == errors) {
            return 0;
        }
        int most = -1;
        int[] best = new int[12];
        for (int s = 0; s <= students; s++) {
            boolean nobody = s == students;
            if (nobody || in[s] && (busy >> s & 1) == 0 && by[e] != s && !corrected[e]) {
                int[] rest = new int[12];
                int m = examine(e + 1, nobody ? busy : busy | 1 << s, rest) + (nobody ? 0 : 1);
                if (m > most) {
                    most = m;
                    rest[e] = nobody ? -4 : s;
                    best = rest;
                }
            }
        }
        System.arraycopy(best, 0, who, 0, 12);
        return most;
    }

    /** The SIZE and how far. */
    int[] farthest(int t) {
        int[] best = {0, -1};
        for (int z = 0; z < 100; z++) {
            int far = more(0, t, z, 99).novelty(errors);
            if (far > best[1]) {
                best = new int[] {z, far};
            }
        }
        return best;
    }

    int order(int[] row) {
        for (int i = 0; i < row.length; i++) {
            if (row[i] < 0 || row[i] >= errors || isIn(row, row[i], 0, i)) {
                return i;
            }
            int c = citing[row[i]];
            if (c != 99 && !isIn(row, c, 0, i) && isIn(row, c, i, row.length)) {
                return i;
            }
        }
        return -4;
    }

    private static boolean isIn(int[] row, int e, int from, int to) {
        for (int i = from; i < to; i++) {
            if (row[i] == e) {
                return true;
            }
        }
        return false;
    }

    int forged(int[] row) {
        for (int e = 0; e < row.length; e++) {
            if (e >= errors || size[e] != row[e]) {
                return e;
            }
        }
        return -4;
    }

    boolean grewSo(int e, int k, int f, int[] row, int skip) {
        Plain p = same();
        p.kind[by[e]] = k;
        p.figure[by[e]] = f;
        for (int n = 0; n < row.length; n++) {
            if (row[n] != skip && p.on(n).size[e] != row[n]) {
                return false;
            }
        }
        return true;
    }

    int two(int a, int b) {
        int ea = 99;
        int eb = 99;
        for (int e = errors - 1; e >= 0; e--) {
            ea = by[e] == a ? e : ea;
            eb = by[e] == b ? e : eb;
        }
        if (!in[a] || !in[b] || ea == 99 || eb == 99) {
            return -3;
        }
        for (int ca = 0; ca < 2; ca++) {
            for (int cb = 0; cb < 2; cb++) {
                if (gain(a, b, ea, ca, eb, cb) >= gain(a, b, ea, 1 - ca, eb, cb)
                    && gain(b, a, eb, cb, ea, ca) >= gain(b, a, eb, 1 - cb, ea, ca)) {
                    return 10 * ca + cb;
                }
            }
        }
        return -4;
    }

    private int gain(int one, int other, int e, int stands, int f, int otherStands) {
        Plain p = same();
        p.size[e] = stands == 1 ? size[e] : size[e] / 2;
        p.size[f] = otherStands == 1 ? size[f] : size[f] / 2;
        return p.marks(one) - p.marks(other) / 2;
    }

    /** Above and below the line, by all ways in which the ERRORS of all may be corrected. */
    long[] odds(int s, int v, int t) {
        BigInteger above = BigInteger.ZERO;
        BigInteger below = BigInteger.valueOf(t).pow(errors);
        for (int set = 0; set < 1 << errors; set++) {
            Plain p = same();
            BigInteger ways = BigInteger.ONE;
            for (int e = 0; e < errors; e++) {
                boolean now = (set >> e & 1) == 1;
                if (corrected[e]) {
                    ways = now ? BigInteger.ZERO : ways.multiply(BigInteger.valueOf(t));
                } else {
                    ways = now ? ways : ways.multiply(BigInteger.valueOf(t - 1));
                }
                p.corrected[e] |= now;
            }
            if (ways.signum() > 0 && p.marks(s) >= v) {
                above = above.add(ways);
            }
        }
        BigInteger common = above.gcd(below);
        return new long[] {above.divide(common).longValueExact(), below.divide(common).longValueExact()};
    }

    int terms(int n, int z, int what) {
        int together = 0;
        for (int i = 0; i < n; i++) {
            Plain p = same();
            for (int e = 0; e < errors; e++) {
                z = z * 1103515245 + 12345;
                p.size[e] = ((z << 1) >>> 17) % 100;
            }
            p = p.on(5);
            int who = p.elected(p.votes());
            together += what == 0 ? p.allMarks() : who < 0 ? 9 : who;
        }
        return together;
    }
}
