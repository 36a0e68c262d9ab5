/** A university where one is examined on what one got wrong; ../shared/DOC.md says what each call must do. */
public final class DegreeInMistakes {
    private static final int NO_SUCH = -1;
    private static final int NO_ROOM = -2;
    private static final int NOT_SO = -3;
    private static final int NONE = -4;
    private static final int NOTHING_HELD = -11;
    private static final int OTHER_KIND = -12;
    private static final int NO_PLACE = -13;
    private static final int SIZE_BELOW_0 = -14;
    private static final int NO_FAILURE = -15;
    /** Refusals of calls that answer longs are this less the refusal. */
    private static final long LONG_REFUSALS = 1000000000L;

    private static final int MOST_STUDENTS = 6;
    private static final int MOST_ERRORS = 12;
    private static final int KINDS = 8;
    private static final int FIGURES = 10;
    private static final int TOPICS = 6;
    private static final int LARGEST = 99;
    /** What CITING is, where an ERROR cites none. */
    private static final int CITES_NONE = 99;
    private static final int LAST_WEEK = 999;
    /** How many WEEKS may go, or be thought of, at once. */
    private static final int WEEKS_ON = 60;
    private static final int MOST_MARKS_ASKED = 999;
    /** As which number TERMS count that nobody is ELECTED. */
    private static final int NOBODY_ELECTED = 9;
    private static final int SHELVES = 8;
    private static final int LONGEST_ROW = 100;
    /** A WORTH is kept in parts so small that it can be halved along the longest chain of CITING. */
    private static final int WORTH_OF_1 = 1 << (MOST_ERRORS - 1);
    private static final int ALL_BUT_SIGN = 0x7fffffff;
    /** How many sets of STUDENTS there are. */
    private static final int CROWDS = 1 << MOST_STUDENTS;

    private final College now;
    /** A second COLLEGE for all that is only thought of, or tried before it counts. */
    private final College mind;
    private final College image;
    private boolean imageTaken;
    private final Shelf[] shelves;
    /** Rows that calls use and leave, made once. */
    private final int[] tally;
    private final int[] perPair;
    private final int[] markable;

    public DegreeInMistakes() {
        now = new College();
        mind = new College();
        image = new College();
        imageTaken = false;
        shelves = new Shelf[SHELVES];
        for (int d = 0; d < SHELVES; d++) {
            shelves[d] = new Shelf();
        }
        tally = new int[MOST_ERRORS];
        perPair = new int[8];
        markable = new int[(MOST_ERRORS + 1) * CROWDS];
    }

    // ---- the college as told

    public int college(int d) {
        int refusal = refusalOfRow(d);
        if (refusal != 0) {
            return refusal;
        }
        Shelf text = shelves[d];
        if (text.sort != Shelf.BYTES) {
            return OTHER_KIND;
        }
        int fault = Text.faultOfForm(text);
        if (fault >= 0) {
            return -1000 - fault;
        }
        mind.become(now);
        fault = Text.faultOfDeed(text, mind);
        if (fault >= 0) {
            return -2000 - fault;
        }
        now.become(mind);
        return Text.statements(text);
    }

    public int student(int s, int what) {
        if (!now.hasStudent(s)) {
            return NO_SUCH;
        }
        switch (what) {
            case 0: return now.kind[s];
            case 1: return now.figure[s];
            case 2: return now.isIn(s) ? 1 : 0;
            case 3: return now.marksOf(s);
            case 4: return now.rankOf(s);
            case 5: return now.errorsOf(s);
            default: return NO_SUCH;
        }
    }

    public int error(int e, int what) {
        if (!now.hasError(e)) {
            return NO_SUCH;
        }
        switch (what) {
            case 0: return now.by[e];
            case 1: return now.topic[e];
            case 2: return now.size[e];
            case 3: return now.citing[e];
            case 4: return now.isCorrected(e) ? 1 : 0;
            case 5: return now.timesCited[e];
            case 6: return now.noveltyOf(e);
            case 7: return now.markedFor(e, now.noveltyOf(e));
            default: return NO_SUCH;
        }
    }

    public int comes(int d) {
        int refusal = refusalOfOne(d);
        return refusal != 0 ? refusal : now.addStudent(shelves[d].kind, shelves[d].figure);
    }

    public int errs(int s, int topic, int size, int citing) {
        return now.addError(s, topic, size, citing);
    }

    public int corrects(int s, int e) {
        return now.correctError(s, e);
    }

    public int sends(int s) {
        return now.turnStudent(s);
    }

    public int weeks(int n) {
        int refusal = now.letWeeksGo(n);
        return refusal != 0 ? refusal : now.allMarks();
    }

    // ---- marks, weeks on

    public int marksThen(int s, int n) {
        if (!now.hasStudent(s) || !mayBeThoughtOf(n)) {
            return NO_SUCH;
        }
        thinkOn(n);
        return mind.marksOf(s);
    }

    public int sizeThen(int e, int n) {
        if (!now.hasError(e) || !mayBeThoughtOf(n)) {
            return NO_SUCH;
        }
        thinkOn(n);
        return mind.size[e];
    }

    public int firstThen(int n) {
        if (!mayBeThoughtOf(n)) {
            return NO_SUCH;
        }
        thinkOn(n);
        return mind.firstOfAll();
    }

    public int firstWhen(int s) {
        if (!now.hasStudent(s)) {
            return NO_SUCH;
        }
        mind.become(now);
        for (int n = 0; n <= WEEKS_ON; n++) {
            if (mind.firstOfAll() == s) {
                return n;
            }
            mind.passWeeks(1);
        }
        return NONE;
    }

    public int degree(int s, int v) {
        if (!now.hasStudent(s) || v < 1 || v > MOST_MARKS_ASKED) {
            return NO_SUCH;
        }
        mind.become(now);
        for (int n = 0; n <= WEEKS_ON; n++) {
            if (mind.marksOf(s) >= v) {
                return n;
            }
            mind.passWeeks(1);
        }
        return NONE;
    }

    private static boolean mayBeThoughtOf(int n) {
        return n >= 0 && n <= WEEKS_ON;
    }

    private void thinkOn(int n) {
        mind.become(now);
        mind.passWeeks(n);
    }

    // ---- the next error

    public int next(int s) {
        if (!now.hasStudent(s)) {
            return NO_SUCH;
        }
        if (!now.isIn(s) || now.errors >= MOST_ERRORS) {
            return NONE;
        }
        now.tellNovelties(tally);
        int best = -1;
        int most = -1;
        for (int topic = 0; topic < TOPICS; topic++) {
            for (int size = 0; size <= LARGEST; size++) {
                int marks = now.marksWithOneMore(s, topic, size, tally);
                if (marks > most) {
                    most = marks;
                    best = 100 * topic + size;
                }
            }
        }
        return best;
    }

    public int farthest(int topic, int what) {
        if (topic < 0 || topic >= TOPICS || what < 0 || what > 1) {
            return NO_SUCH;
        }
        int best = 0;
        int most = -1;
        for (int size = 0; size <= LARGEST; size++) {
            int far = now.nearest(topic, size, NO_SUCH);
            if (far > most) {
                most = far;
                best = size;
            }
        }
        return what == 0 ? best : most;
    }

    public int cite(int s, int other) {
        if (!areTwo(s, other)) {
            return NO_SUCH;
        }
        if (!now.isIn(s)) {
            return NOT_SO;
        }
        if (now.errors >= MOST_ERRORS) {
            return NONE;
        }
        int best = NONE;
        int most = -1;
        for (int e = 0; e < now.errors; e++) {
            mind.become(now);
            mind.addError(s, 0, 0, e);
            int marks = mind.marksOf(other);
            if (marks > most) {
                most = marks;
                best = e;
            }
        }
        return best;
    }

    public int correct(int s, int other) {
        if (!areTwo(s, other)) {
            return NO_SUCH;
        }
        int best = NONE;
        int least = now.rankOf(other);
        for (int e = 0; e < now.errors; e++) {
            mind.become(now);
            if (mind.correctError(s, e) < 0) {
                continue;
            }
            int rank = mind.rankOf(other);
            if (rank < least) {
                least = rank;
                best = e;
            }
        }
        return best;
    }

    private boolean areTwo(int a, int b) {
        return now.hasStudent(a) && now.hasStudent(b) && a != b;
    }

    // ---- nets of citing

    public int cited(int e, int what) {
        if (!now.hasError(e)) {
            return NO_SUCH;
        }
        switch (what) {
            case 0: return now.citedInTheEnd(e);
            case 1: return now.depthOf(e);
            default: return NO_SUCH;
        }
    }

    public long worth(int e, int part) {
        if (!now.hasError(e) || !isPart(part)) {
            return asLong(NO_SUCH);
        }
        now.tellWorths(tally);
        return partOfFraction(tally[e], WORTH_OF_1, part);
    }

    public int nets(int what) {
        switch (what) {
            case 0: return dearest();
            case 1: return longest();
            case 2: return now.firstOfDepth(longest());
            case 3: return now.aloneOnes();
            default: return NO_SUCH;
        }
    }

    private int dearest() {
        now.tellWorths(tally);
        return firstOfMost(tally, now.errors);
    }

    private int longest() {
        int most = 0;
        for (int e = 0; e < now.errors; e++) {
            most = Math.max(most, now.depthOf(e));
        }
        return most;
    }

    public int topics(int what) {
        if (what < 0 || what > 1) {
            return NO_SUCH;
        }
        for (int topic = 0; topic < TOPICS; topic++) {
            tally[topic] = 0;
        }
        int bits = 0;
        for (int e = 0; e < now.errors; e++) {
            bits |= 1 << now.topic[e];
            tally[now.topic[e]]++;
        }
        if (what == 0) {
            return bits;
        }
        return bits == 0 ? NONE : firstOfMost(tally, TOPICS);
    }

    private static int firstOfMost(int[] row, int count) {
        int best = NONE;
        for (int i = 0; i < count; i++) {
            if (best < 0 || row[i] > row[best]) {
                best = i;
            }
        }
        return best;
    }

    private static boolean isPart(int part) {
        return part == 0 || part == 1;
    }

    private static long asLong(int refusal) {
        return LONG_REFUSALS - refusal;
    }

    private static long partOfFraction(long above, long below, int part) {
        long common = commonDivisor(above, below);
        if (common == 0) {
            return part;
        }
        return (part == 0 ? above : below) / common;
    }

    private static long commonDivisor(long a, long b) {
        long greater = a;
        long lesser = b;
        // Euclid's steps halve the numbers at least every second time, so a long has done by then.
        for (int step = 0; step < 200 && lesser != 0; step++) {
            long rest = greater % lesser;
            greater = lesser;
            lesser = rest;
        }
        return greater;
    }

    // ---- votes, examiners

    public int votes(int s) {
        if (s == -1) {
            return now.electedOne();
        }
        if (!now.hasStudent(s)) {
            return NO_SUCH;
        }
        now.countVotes();
        return now.votesFor[s];
    }

    public int slips(int s) {
        if (!now.hasStudent(s)) {
            return NO_SUCH;
        }
        if (!now.isIn(s)) {
            return NONE;
        }
        now.countVotes();
        int slips = 0;
        while (slips < MOST_STUDENTS && now.votesTooMany(s, slips) > slips) {
            slips++;
        }
        return slips;
    }

    public int examiners(int e) {
        if (e != -1 && !now.hasError(e)) {
            return NO_SUCH;
        }
        tellMarkable();
        return e == -1 ? markable[0] : examinerOf(e);
    }

    /** Tells for each ERROR and each crowd of STUDENTS that mark already how many can be marked from there on. */
    private void tellMarkable() {
        int crowds = 1 << now.students;
        for (int crowd = 0; crowd < crowds; crowd++) {
            markable[now.errors * CROWDS + crowd] = 0;
        }
        for (int e = now.errors - 1; e >= 0; e--) {
            for (int crowd = 0; crowd < crowds; crowd++) {
                markable[e * CROWDS + crowd] = mostMarkable(e, crowd);
            }
        }
    }

    private int mostMarkable(int e, int crowd) {
        int most = markable[(e + 1) * CROWDS + crowd];
        for (int s = 0; s < now.students; s++) {
            if (mayMark(s, e, crowd)) {
                most = Math.max(most, 1 + markable[(e + 1) * CROWDS + (crowd | 1 << s)]);
            }
        }
        return most;
    }

    private boolean mayMark(int s, int e, int crowd) {
        return now.isIn(s) && (crowd >> s & 1) == 0 && now.by[e] != s && !now.isCorrected(e);
    }

    private int examinerOf(int wanted) {
        int crowd = 0;
        int examiner = NONE;
        for (int e = 0; e <= wanted; e++) {
            examiner = firstExaminer(e, crowd);
            if (examiner >= 0) {
                crowd |= 1 << examiner;
            }
        }
        return examiner;
    }

    private int firstExaminer(int e, int crowd) {
        int most = markable[e * CROWDS + crowd];
        for (int s = 0; s < now.students; s++) {
            if (mayMark(s, e, crowd) && 1 + markable[(e + 1) * CROWDS + (crowd | 1 << s)] == most) {
                return s;
            }
        }
        return NONE;
    }

    // ---- who erred first, what he is

    public int order(int d) {
        int refusal = refusalOfRow(d);
        if (refusal != 0) {
            return refusal;
        }
        Shelf row = shelves[d];
        for (int i = 0; i < row.length; i++) {
            int e = row.cells[i];
            if (!now.hasError(e) || row.firstPlaceOf(e) < i) {
                return i;
            }
            if (now.hasError(now.citing[e]) && row.firstPlaceOf(now.citing[e]) > i) {
                return i;
            }
        }
        return NONE;
    }

    public int whatIs(int d, int e, int what) {
        if (!isShelf(d) || !now.hasError(e) || what < 0 || what > 1) {
            return NO_SUCH;
        }
        int refusal = refusalOfRow(d);
        if (refusal != 0) {
            return refusal;
        }
        return what == 0 ? kindsThatGrewSo(shelves[d], e) : figuresThatGrewSo(shelves[d], e);
    }

    /** Only his KIND is tried in place of what he has: his FIGURE stays. */
    private int kindsThatGrewSo(Shelf row, int e) {
        int figure = now.figure[now.by[e]];
        int bits = 0;
        for (int kind = 0; kind < KINDS; kind++) {
            if (grewSo(row, e, kind, figure)) {
                bits |= 1 << kind;
            }
        }
        return bits;
    }

    /** Only his FIGURE is tried in place of what he has: his KIND stays. */
    private int figuresThatGrewSo(Shelf row, int e) {
        int kind = now.kind[now.by[e]];
        int bits = 0;
        for (int figure = 0; figure < FIGURES; figure++) {
            if (grewSo(row, e, kind, figure)) {
                bits |= 1 << figure;
            }
        }
        return bits;
    }

    /** Whether the ERROR would have the told SIZES if who made it were of that KIND with that FIGURE. */
    private boolean grewSo(Shelf row, int e, int kind, int figure) {
        boolean ripe = now.ripensAtAll(e);
        int size = now.size[e];
        for (int n = 0; n < row.length; n++) {
            if (n > 0 && ripe) {
                size = Math.min(LARGEST, size + now.kinds[kind].ripens(figure, now.week + n));
            }
            if (!row.isSkipped(n) && row.cells[n] != size) {
                return false;
            }
        }
        return true;
    }

    public int two(int a, int b) {
        if (!areTwo(a, b)) {
            return NO_SUCH;
        }
        int errorOfA = now.leastErrorOf(a);
        int errorOfB = now.leastErrorOf(b);
        if (!now.isIn(a) || !now.isIn(b) || errorOfA < 0 || errorOfB < 0) {
            return NOT_SO;
        }
        mind.become(now);
        for (int pair = 0; pair < 4; pair++) {
            mind.size[errorOfA] = standsOrHalf(errorOfA, pair >> 1);
            mind.size[errorOfB] = standsOrHalf(errorOfB, pair & 1);
            int marksOfA = mind.marksOf(a);
            int marksOfB = mind.marksOf(b);
            perPair[pair] = marksOfA - marksOfB / 2;
            perPair[4 + pair] = marksOfB - marksOfA / 2;
        }
        for (int pair = 0; pair < 4; pair++) {
            // The other choice of the one turns bit 1 of a pair, that of the other one bit 0.
            if (perPair[pair ^ 2] <= perPair[pair] && perPair[4 + (pair ^ 1)] <= perPair[4 + pair]) {
                return 10 * (pair >> 1) + (pair & 1);
            }
        }
        return NONE;
    }

    private int standsOrHalf(int e, int stands) {
        return stands == 1 ? now.size[e] : now.size[e] / 2;
    }

    public long odds(int s, int v, int t, int part) {
        if (!now.hasStudent(s) || v < 0 || v > MOST_MARKS_ASKED || t < 2 || t > 20 || !isPart(part)) {
            return asLong(NO_SUCH);
        }
        int count = 0;
        for (int e = 0; e < now.errors; e++) {
            if (now.by[e] == s && !now.isCorrected(e)) {
                tally[count] = now.markedFor(e, now.noveltyOf(e));
                count++;
            }
        }
        long ways = waysToHave(v, tally, 0, count, t);
        return partOfFraction(ways, power(t, count), part);
    }

    /** Of the t ways of each from there on, how many leave him the MARKS he lacks: one way of t loses them. */
    private static long waysToHave(int lacking, int[] marked, int from, int count, int t) {
        if (lacking <= 0) {
            return power(t, count - from);
        }
        if (from >= count) {
            return 0;
        }
        return (t - 1) * waysToHave(lacking - marked[from], marked, from + 1, count, t)
            + waysToHave(lacking, marked, from + 1, count, t);
    }

    private static long power(int base, int exponent) {
        long product = 1;
        for (int i = 0; i < exponent; i++) {
            product *= base;
        }
        return product;
    }

    public long mean(int part) {
        if (!isPart(part)) {
            return asLong(NO_SUCH);
        }
        return partOfFraction(now.allSize(), Math.max(1, now.errors), part);
    }

    // ---- told pages, terms by seeds

    public int forged(int d) {
        int refusal = refusalOfRow(d);
        if (refusal != 0) {
            return refusal;
        }
        Shelf row = shelves[d];
        for (int e = 0; e < row.length; e++) {
            if (!now.hasError(e) || now.size[e] != row.cells[e]) {
                return e;
            }
        }
        return NONE;
    }

    public int judge(int d) {
        int refusal = refusalOfRow(d);
        if (refusal != 0) {
            return refusal;
        }
        Shelf row = shelves[d];
        mind.become(now);
        for (int n = 0; n < row.length; n++) {
            if (!row.isSkipped(n) && row.cells[n] != mind.allMarks()) {
                return n;
            }
            mind.passWeeks(1);
        }
        return NONE;
    }

    public int terms(int n, int z, int what) {
        if (n < 1 || n > 20 || what < 0 || what > 1) {
            return NO_SUCH;
        }
        int seed = z;
        int together = 0;
        for (int term = 0; term < n; term++) {
            mind.become(now);
            for (int e = 0; e < mind.errors; e++) {
                seed = seed * 1103515245 + 12345;
                mind.size[e] = (seed & ALL_BUT_SIGN) / 65536 % 100;
            }
            mind.passWeeks(5);
            if (what == 0) {
                together += mind.allMarks();
            } else {
                int elected = mind.electedOne();
                together += elected < 0 ? NOBODY_ELECTED : elected;
            }
        }
        return together;
    }

    // ---- the image, what is told

    public int image() {
        image.become(now);
        imageTaken = true;
        return now.week;
    }

    public int restore() {
        if (!imageTaken) {
            return NOT_SO;
        }
        now.become(image);
        return now.week;
    }

    public int count(int what) {
        switch (what) {
            case 0: return now.students;
            case 1: return now.errors;
            case 2: return now.week;
            case 3: return now.in;
            case 4: return now.corrected;
            case 5: return now.allSize();
            case 6: return now.allMarks();
            default: return NO_SUCH;
        }
    }

    // ---- shelves

    public int keep(int d, int what, int k, int figure) {
        if (!isShelf(d) || what < 0 || what > 1) {
            return NO_SUCH;
        }
        if (what == 0) {
            shelves[d].holdNothing();
            return 0;
        }
        if (k < 0 || k >= KINDS || figure < 0 || figure >= FIGURES) {
            return NO_SUCH;
        }
        shelves[d].holdOne(k, figure);
        return 0;
    }

    public int row(int d, int sort, int n) {
        if (!isShelf(d) || sort < Shelf.BYTES || sort > Shelf.INTS || n > LONGEST_ROW) {
            return NO_SUCH;
        }
        if (n < 0) {
            return SIZE_BELOW_0;
        }
        shelves[d].holdRow(sort, n);
        return 0;
    }

    public int put(int d, int i, int v) {
        int refusal = refusalOfRow(d);
        if (refusal != 0) {
            return refusal;
        }
        if (!shelves[d].hasPlace(i)) {
            return NO_PLACE;
        }
        shelves[d].setCell(i, v);
        return 0;
    }

    public long element(int d, int i) throws IllegalArgumentException, IllegalStateException {
        if (!isShelf(d)) {
            throw new IllegalArgumentException("no such shelf");
        }
        if (refusalOfRow(d) != 0) {
            throw new IllegalStateException("no row");
        }
        if (!shelves[d].hasPlace(i)) {
            throw new IllegalStateException("no such place");
        }
        return shelves[d].cells[i];
    }

    public int copy(int d, int i, int e, int j, int n) {
        if (!isShelf(d) || !isShelf(e)) {
            return NO_SUCH;
        }
        Shelf from = shelves[d];
        Shelf to = shelves[e];
        if (from.holds == Shelf.NOTHING || to.holds == Shelf.NOTHING) {
            return NOTHING_HELD;
        }
        if (from.holds != Shelf.ROW || to.holds != Shelf.ROW || from.sort != to.sort) {
            return OTHER_KIND;
        }
        if (!from.hasPlaces(i, n) || !to.hasPlaces(j, n)) {
            return NO_PLACE;
        }
        System.arraycopy(from.cells, i, to.cells, j, n);
        return n;
    }

    public int cost(int d) {
        int refusal = refusalOfOne(d);
        return refusal != 0 ? refusal : now.kinds[shelves[d].kind].price(shelves[d].figure);
    }

    public int toss(int d) {
        int refusal = refusalOfOne(d);
        return refusal != 0 ? refusal : caughtFailure(now.kinds[shelves[d].kind], shelves[d].figure);
    }

    /** Which exception flies tells whose FAILURE it was. */
    private static int caughtFailure(Student one, int figure) {
        try {
            one.fail(figure);
        } catch (UnsupportedOperationException ofGenius) {
            return 200 + one.price(figure);
        } catch (IllegalArgumentException ofDon) {
            return 100 + figure;
        } catch (IllegalStateException ofStudent) {
            return figure;
        }
        return NO_FAILURE;
    }

    private static boolean isShelf(int d) {
        return d >= 0 && d < SHELVES;
    }

    private int refusalOfRow(int d) {
        return refusalOfHeld(d, Shelf.ROW);
    }

    private int refusalOfOne(int d) {
        return refusalOfHeld(d, Shelf.ONE);
    }

    private int refusalOfHeld(int d, int wanted) {
        if (!isShelf(d)) {
            return NO_SUCH;
        }
        if (shelves[d].holds == Shelf.NOTHING) {
            return NOTHING_HELD;
        }
        return shelves[d].holds == wanted ? 0 : OTHER_KIND;
    }

    /** The KIND that all others are under. */
    private static class Student {
        int ripens(int figure, int week) {
            return 1;
        }

        int marked(int size, int times, int novelty, int figure) {
            return size;
        }

        int price(int figure) {
            return 1;
        }

        void fail(int figure) {
            if (figure != 0) {
                throw new IllegalStateException("a student's failure");
            }
        }
    }

    private static class Don extends Student {
        int ripens(int figure, int week) {
            return 2;
        }

        int marked(int size, int times, int novelty, int figure) {
            return super.marked(size, times, novelty, figure) + 2 * times;
        }

        int price(int figure) {
            return 5;
        }

        void fail(int figure) {
            if (figure != 0) {
                throw new IllegalArgumentException("a don's failure");
            }
        }
    }

    private static class Freshman extends Student {
        int ripens(int figure, int week) {
            return week & 1;
        }

        int marked(int size, int times, int novelty, int figure) {
            return size / 2;
        }

        int price(int figure) {
            return super.price(figure) + figure;
        }

        void fail(int figure) {
            // Freshmen, and wits with them, have no failure.
        }
    }

    private static class Fellow extends Don {
        int ripens(int figure, int week) {
            return 2 * super.ripens(figure, week);
        }

        int marked(int size, int times, int novelty, int figure) {
            return super.marked(size, times, novelty, figure) + novelty;
        }

        int price(int figure) {
            return 2 * super.price(figure);
        }
    }

    private static final class Wit extends Freshman {
        int ripens(int figure, int week) {
            return super.ripens(figure, week) + figure / 3;
        }

        int marked(int size, int times, int novelty, int figure) {
            return super.marked(size, times, novelty, figure) + novelty;
        }
    }

    private static final class Deaf extends Don {
        int ripens(int figure, int week) {
            return super.ripens(figure, week) + 1;
        }

        int marked(int size, int times, int novelty, int figure) {
            return super.marked(size, times, novelty, figure) + figure;
        }

        int price(int figure) {
            return super.price(figure) - 2;
        }
    }

    private static final class Genius extends Fellow {
        int ripens(int figure, int week) {
            return super.ripens(figure, week) / 2;
        }

        int marked(int size, int times, int novelty, int figure) {
            return 2 * novelty;
        }

        int price(int figure) {
            return super.price(figure) + figure;
        }

        void fail(int figure) {
            if (figure != 0) {
                throw new UnsupportedOperationException("a genius's failure");
            }
        }
    }

    private static final class Proctor extends Student {
        int ripens(int figure, int week) {
            return 0;
        }

        int marked(int size, int times, int novelty, int figure) {
            return 0;
        }

        int price(int figure) {
            return 0;
        }
    }

    /** All that there is but SHELVES: STUDENTS, their ERRORS, the WEEK. */
    private static final class College {
        private final Student[] kinds;
        private int students;
        private final int[] kind;
        private final int[] figure;
        /** Bits of the STUDENTS who are IN. */
        private int in;
        private int errors;
        private final int[] by;
        private final int[] topic;
        private final int[] size;
        private final int[] citing;
        private final int[] timesCited;
        /** Bits of the ERRORS that are CORRECTED. */
        private int corrected;
        private int week;
        /** Rows that are told anew before each use. */
        private final int[] marks;
        private final int[] votesFor;

        private College() {
            kinds = new Student[] {new Student(), new Don(), new Freshman(), new Fellow(),
                new Wit(), new Deaf(), new Genius(), new Proctor()};
            kind = new int[MOST_STUDENTS];
            figure = new int[MOST_STUDENTS];
            by = new int[MOST_ERRORS];
            topic = new int[MOST_ERRORS];
            size = new int[MOST_ERRORS];
            citing = new int[MOST_ERRORS];
            timesCited = new int[MOST_ERRORS];
            marks = new int[MOST_STUDENTS];
            votesFor = new int[MOST_STUDENTS];
        }

        private void become(College other) {
            students = other.students;
            in = other.in;
            errors = other.errors;
            corrected = other.corrected;
            week = other.week;
            System.arraycopy(other.kind, 0, kind, 0, MOST_STUDENTS);
            System.arraycopy(other.figure, 0, figure, 0, MOST_STUDENTS);
            System.arraycopy(other.by, 0, by, 0, MOST_ERRORS);
            System.arraycopy(other.topic, 0, topic, 0, MOST_ERRORS);
            System.arraycopy(other.size, 0, size, 0, MOST_ERRORS);
            System.arraycopy(other.citing, 0, citing, 0, MOST_ERRORS);
            System.arraycopy(other.timesCited, 0, timesCited, 0, MOST_ERRORS);
        }

        private boolean hasStudent(int s) {
            return s >= 0 && s < students;
        }

        private boolean hasError(int e) {
            return e >= 0 && e < errors;
        }

        private boolean isIn(int s) {
            return (in >> s & 1) == 1;
        }

        private boolean isCorrected(int e) {
            return (corrected >> e & 1) == 1;
        }

        // What changes it: each answers a refusal, and nothing has changed then.

        private int addStudent(int newKind, int newFigure) {
            if (newKind < 0 || newKind >= KINDS || newFigure < 0 || newFigure >= FIGURES) {
                return NO_SUCH;
            }
            if (students >= MOST_STUDENTS) {
                return NO_ROOM;
            }
            kind[students] = newKind;
            figure[students] = newFigure;
            in |= 1 << students;
            students++;
            return students - 1;
        }

        private int addError(int s, int newTopic, int newSize, int cites) {
            if (!hasStudent(s) || newTopic < 0 || newTopic >= TOPICS || newSize < 0 || newSize > LARGEST
                || cites != CITES_NONE && !hasError(cites)) {
                return NO_SUCH;
            }
            if (!isIn(s)) {
                return NOT_SO;
            }
            if (errors >= MOST_ERRORS) {
                return NO_ROOM;
            }
            by[errors] = s;
            topic[errors] = newTopic;
            size[errors] = newSize;
            citing[errors] = cites;
            timesCited[errors] = 0;
            if (cites != CITES_NONE) {
                timesCited[cites]++;
            }
            errors++;
            return errors - 1;
        }

        private int correctError(int s, int e) {
            if (!hasStudent(s) || !hasError(e)) {
                return NO_SUCH;
            }
            if (!isIn(s) || by[e] == s || isCorrected(e)) {
                return NOT_SO;
            }
            corrected |= 1 << e;
            size[e] = size[e] / 2;
            in &= ~(1 << s);
            return size[e];
        }

        private int turnStudent(int s) {
            if (!hasStudent(s)) {
                return NO_SUCH;
            }
            in ^= 1 << s;
            return in >> s & 1;
        }

        private int letWeeksGo(int n) {
            if (n < 1 || n > WEEKS_ON) {
                return NO_SUCH;
            }
            if (week + n > LAST_WEEK) {
                return NOT_SO;
            }
            passWeeks(n);
            return 0;
        }

        /** Goes on behind the last WEEK, too: what is only thought of has no end. */
        private void passWeeks(int n) {
            for (int i = 0; i < n; i++) {
                week++;
                for (int e = 0; e < errors; e++) {
                    int s = by[e];
                    if (ripensAtAll(e)) {
                        size[e] = Math.min(LARGEST, size[e] + kinds[kind[s]].ripens(figure[s], week));
                    }
                }
            }
        }

        private boolean ripensAtAll(int e) {
            return !isCorrected(e) && isIn(by[e]);
        }

        // What ERRORS are marked.

        /** How far a SIZE is from the nearest ERROR of a TOPIC, but for one that is left out. */
        private int nearest(int ofTopic, int ofSize, int leftOut) {
            int least = LARGEST;
            for (int e = 0; e < errors; e++) {
                if (e != leftOut && topic[e] == ofTopic) {
                    least = Math.min(least, Math.abs(size[e] - ofSize));
                }
            }
            return least;
        }

        private int noveltyOf(int e) {
            return nearest(topic[e], size[e], e);
        }

        private void tellNovelties(int[] row) {
            for (int e = 0; e < errors; e++) {
                row[e] = noveltyOf(e);
            }
        }

        private int markedFor(int e, int novelty) {
            int s = by[e];
            return isCorrected(e) ? 0 : kinds[kind[s]].marked(size[e], timesCited[e], novelty, figure[s]);
        }

        private int marksOf(int s) {
            int together = 0;
            for (int e = 0; e < errors; e++) {
                if (by[e] == s) {
                    together += markedFor(e, noveltyOf(e));
                }
            }
            return together;
        }

        /** His MARKS with an ERROR more, which takes NOVELTY only from those of its TOPIC. */
        private int marksWithOneMore(int s, int newTopic, int newSize, int[] novelties) {
            int together = 0;
            int newNovelty = LARGEST;
            for (int e = 0; e < errors; e++) {
                int far = topic[e] == newTopic ? Math.abs(size[e] - newSize) : LARGEST;
                newNovelty = Math.min(newNovelty, far);
                if (by[e] == s) {
                    together += markedFor(e, Math.min(novelties[e], far));
                }
            }
            return together + kinds[kind[s]].marked(newSize, 0, newNovelty, figure[s]);
        }

        private int allMarks() {
            int together = 0;
            for (int e = 0; e < errors; e++) {
                together += markedFor(e, noveltyOf(e));
            }
            return together;
        }

        private int allSize() {
            int together = 0;
            for (int e = 0; e < errors; e++) {
                together += size[e];
            }
            return together;
        }

        private void tellMarks() {
            for (int s = 0; s < students; s++) {
                marks[s] = 0;
            }
            for (int e = 0; e < errors; e++) {
                marks[by[e]] += markedFor(e, noveltyOf(e));
            }
        }

        private int rankOf(int s) {
            tellMarks();
            int ahead = 0;
            for (int other = 0; other < students; other++) {
                if (marks[other] > marks[s] || marks[other] == marks[s] && other < s) {
                    ahead++;
                }
            }
            return ahead;
        }

        private int firstOfAll() {
            tellMarks();
            return firstOfMost(marks, students);
        }

        /** Bits of the ERRORS that he made. */
        private int errorsOf(int s) {
            int bits = 0;
            for (int e = 0; e < errors; e++) {
                if (by[e] == s) {
                    bits |= 1 << e;
                }
            }
            return bits;
        }

        private int leastErrorOf(int s) {
            for (int e = 0; e < errors; e++) {
                if (by[e] == s) {
                    return e;
                }
            }
            return NONE;
        }

        // Nets of citing: each cites a lesser one, so every chain goes down and ends.

        private int depthOf(int e) {
            int depth = 0;
            for (int at = e; hasError(at) && depth < MOST_ERRORS; at = citing[at]) {
                depth++;
            }
            return depth;
        }

        private int firstOfDepth(int depth) {
            for (int e = 0; e < errors; e++) {
                if (depthOf(e) == depth) {
                    return e;
                }
            }
            return NONE;
        }

        private int citedInTheEnd(int e) {
            int count = 0;
            // Bits of e and of all that cite it so far: whoever cites one of them joins.
            int net = 1 << e;
            for (int later = e + 1; later < errors; later++) {
                if (hasError(citing[later]) && (net >> citing[later] & 1) == 1) {
                    net |= 1 << later;
                    count++;
                }
            }
            return count;
        }

        /** Tells WORTHS in parts of WORTH_OF_1; an ERROR's is whole before it is handed on. */
        private void tellWorths(int[] row) {
            for (int e = 0; e < errors; e++) {
                row[e] = WORTH_OF_1;
            }
            for (int e = errors - 1; e >= 0; e--) {
                if (hasError(citing[e])) {
                    row[citing[e]] += row[e] / 2;
                }
            }
        }

        private int aloneOnes() {
            int bits = 0;
            for (int e = 0; e < errors; e++) {
                if (timesCited[e] == 0 && citing[e] == CITES_NONE) {
                    bits |= 1 << e;
                }
            }
            return bits;
        }

        // Elections.

        private void countVotes() {
            tellMarks();
            for (int s = 0; s < students; s++) {
                votesFor[s] = 0;
            }
            for (int s = 0; s < students; s++) {
                int chosen = isIn(s) ? choiceOf(s) : NONE;
                if (chosen >= 0) {
                    votesFor[chosen]++;
                }
            }
        }

        private int choiceOf(int voter) {
            int best = NONE;
            for (int s = 0; s < students; s++) {
                if (s != voter && isIn(s) && (best < 0 || marks[s] > marks[best])) {
                    best = s;
                }
            }
            return best;
        }

        private int electedOne() {
            countVotes();
            int best = NONE;
            for (int s = 0; s < students; s++) {
                if (isIn(s) && (best < 0 || votesFor[s] > votesFor[best])) {
                    best = s;
                }
            }
            return best;
        }

        /** With so many votes more for him, how many of the others' stand in his way. */
        private int votesTooMany(int s, int more) {
            int tooMany = 0;
            for (int other = 0; other < students; other++) {
                if (other != s && isIn(other)) {
                    int allowed = votesFor[s] + more - (other < s ? 1 : 0);
                    tooMany += Math.max(0, votesFor[other] - allowed);
                }
            }
            return tooMany;
        }
    }

    /** A place for nothing, one of a KIND, or a ROW; its cells are made once and used for every ROW. */
    private static final class Shelf {
        private static final int NOTHING = 0;
        private static final int ONE = 1;
        private static final int ROW = 2;
        private static final int BYTES = 0;
        private static final int SHORTS = 1;
        private static final int INTS = 2;
        private static final int LEAST_BYTE = -128;
        private static final int LEAST_SHORT = -32768;
        private static final int LEAST_INT = -2147483648;

        private int holds;
        private int kind;
        private int figure;
        private int sort;
        private int length;
        private final int[] cells;

        private Shelf() {
            holds = NOTHING;
            cells = new int[LONGEST_ROW];
        }

        private void holdNothing() {
            holds = NOTHING;
        }

        private void holdOne(int newKind, int newFigure) {
            holds = ONE;
            kind = newKind;
            figure = newFigure;
        }

        private void holdRow(int newSort, int newLength) {
            holds = ROW;
            sort = newSort;
            length = newLength;
            for (int i = 0; i < LONGEST_ROW; i++) {
                cells[i] = 0;
            }
        }

        private boolean hasPlace(int i) {
            return i >= 0 && i < length;
        }

        private boolean hasPlaces(int i, int n) {
            return n >= 0 && i >= 0 && i <= length - n;
        }

        private void setCell(int i, int v) {
            cells[i] = sort == BYTES ? (byte) v : sort == SHORTS ? (short) v : v;
        }

        /** The least number of the SORT stands for one that is not told. */
        private boolean isSkipped(int i) {
            return cells[i] == (sort == BYTES ? LEAST_BYTE : sort == SHORTS ? LEAST_SHORT : LEAST_INT);
        }

        private int firstPlaceOf(int v) {
            for (int i = 0; i < length; i++) {
                if (cells[i] == v) {
                    return i;
                }
            }
            return NONE;
        }
    }

    /** THE TEXT of a COLLEGE: its form is looked at as a whole before any STATEMENT is tried. */
    private static final class Text {
        private static final int NO_FAULT = -1;

        /** How many digits a letter wants behind it; -1, if no STATEMENT begins with it. */
        private static int digitsBehind(int letter) {
            switch (letter) {
                case 's': return 2;
                case 'e': return 6;
                case 'c': return 3;
                case 'd': return 1;
                case 'w': return 2;
                default: return -1;
            }
        }

        private static int faultOfForm(Shelf text) {
            if (text.length == 0) {
                return 0;
            }
            int place = 0;
            while (place < text.length) {
                int digits = digitsBehind(text.cells[place]);
                if (digits < 0) {
                    return place;
                }
                for (int i = 1; i <= digits + 1; i++) {
                    if (!text.hasPlace(place + i)) {
                        return text.length;
                    }
                    int sign = text.cells[place + i];
                    if (i <= digits ? sign < '0' || sign > '9' : sign != ';') {
                        return place + i;
                    }
                }
                place += digits + 2;
            }
            return NO_FAULT;
        }

        private static int statements(Shelf text) {
            int count = 0;
            for (int i = 0; i < text.length; i++) {
                if (text.cells[i] == ';') {
                    count++;
                }
            }
            return count;
        }

        /** Does what a text without fault of form says, until something can't be done. */
        private static int faultOfDeed(Shelf text, College college) {
            int place = 0;
            while (place < text.length) {
                int digits = digitsBehind(text.cells[place]);
                if (digits < 0 || !text.hasPlace(place + digits + 1) || answerOf(text, place, college) < 0) {
                    return place;
                }
                place += digits + 2;
            }
            return NO_FAULT;
        }

        private static int answerOf(Shelf text, int place, College college) {
            switch (text.cells[place]) {
                case 's': return college.addStudent(digit(text, place + 1), digit(text, place + 2));
                case 'e': return college.addError(digit(text, place + 1), digit(text, place + 2),
                    twoDigits(text, place + 3), twoDigits(text, place + 5));
                case 'c': return college.correctError(digit(text, place + 1), twoDigits(text, place + 2));
                case 'd': return college.turnStudent(digit(text, place + 1));
                case 'w': return college.letWeeksGo(twoDigits(text, place + 1));
                default: return NO_SUCH;
            }
        }

        private static int digit(Shelf text, int place) {
            return text.cells[place] - '0';
        }

        private static int twoDigits(Shelf text, int place) {
            return 10 * digit(text, place) + digit(text, place + 1);
        }
    }
}
