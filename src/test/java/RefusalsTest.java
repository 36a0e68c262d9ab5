import java.util.function.Supplier;
import java.util.function.ToLongFunction;

/**
 * Each refusal of each promise: numbers below and above their range, and which refusal is told if there are several.
 * Behind every refused call nothing may have changed, neither the college nor a shelf nor the image.
 */
public final class RefusalsTest {
    private static final Check CHECK = new Check("RefusalsTest");
    private static final int LEAST = Integer.MIN_VALUE;
    private static final int MOST = Integer.MAX_VALUE;
    private static final long OF_LONGS = 1000000001L;
    /** Shelves of rich(). */
    private static final int BYTES = 0;
    private static final int SHORTS = 1;
    private static final int INTS = 2;
    private static final int ONE = 3;
    private static final int NO_FAILURE = 4;
    private static final int EMPTY = 5;
    private static final int NOTHING = 6;

    public static void main(String[] args) {
        college();
        students();
        errors();
        comes();
        errs();
        corrects();
        sendsAndWeeks();
        weeksOn();
        nextErrors();
        cite();
        correct();
        nets();
        votes();
        order();
        whatIs();
        two();
        fractions();
        pages();
        imageAndCount();
        keepAndRow();
        putAndElement();
        copy();
        costAndToss();
        CHECK.end();
    }

    /** Students 0 to 3 (2 SENT DOWN, 3 has no errors), errors 0 to 3 (0 CORRECTED), an image, shelves of all sorts. */
    static DegreeInMistakes rich() {
        DegreeInMistakes x = Check.of("s35;s47;s62;e014099;");
        x.image();
        Check.tell(x, "s09;e123000;e202001;e001199;w03;c200;");
        Check.fill(x, BYTES, 0, 's', '8', '0');
        Check.fill(x, SHORTS, 1, 300, -2);
        Check.fill(x, INTS, 2, 70000, 1, -1);
        x.keep(ONE, 1, 6, 5);
        x.keep(NO_FAILURE, 1, 2, 5);
        x.row(EMPTY, 0, 0);
        x.keep(7, 0, 0, 0);
        return x;
    }

    /** As many students and errors as may be, student 5 SENT DOWN, WEEK 999. */
    private static DegreeInMistakes full() {
        DegreeInMistakes x = Check.of("s00;s11;s22;s33;s44;s55;", "e000099;e112299;e224499;e336699;e448899;e559999;",
            "e009805;e117605;e225405;e333205;e441005;e550105;d5;");
        for (int i = 0; i < 16; i++) {
            x.weeks(60);
        }
        x.weeks(39);
        x.keep(7, 0, 0, 0);
        x.keep(0, 1, 1, 1);
        x.row(1, 0, 1);
        return x;
    }

    private static DegreeInMistakes newOne() {
        return new DegreeInMistakes();
    }

    private static void refused(Supplier<DegreeInMistakes> made, String told, ToLongFunction<DegreeInMistakes> call,
        long want) {
        DegreeInMistakes x = made.get();
        CHECK.due(told, call.applyAsLong(x), want);
        CHECK.due(told + ", has it changed anything?", Seen.of(x).equals(Seen.of(made.get())) ? 0 : 1, 0);
    }

    private static void rich(String told, ToLongFunction<DegreeInMistakes> call, long want) {
        refused(RefusalsTest::rich, told + " of rich()", call, want);
    }

    private static void full(String told, ToLongFunction<DegreeInMistakes> call, long want) {
        refused(RefusalsTest::full, told + " of full()", call, want);
    }

    private static void newOne(String told, ToLongFunction<DegreeInMistakes> call, long want) {
        refused(RefusalsTest::newOne, told + " of a new one", call, want);
    }

    /** Numbers that aren't in a range. */
    private static int[] outside(int least, int most) {
        return new int[] {LEAST, least - 1, most + 1, MOST};
    }

    private static void college() {
        for (int d : outside(0, 7)) {
            rich("college(" + d + ")", x -> x.college(d), -1);
        }
        rich("college, nothing", x -> x.college(NOTHING), -11);
        rich("college, a student", x -> x.college(ONE), -12);
        rich("college, shorts", x -> x.college(SHORTS), -12);
        rich("college, ints", x -> x.college(INTS), -12);
        rich("college, an empty row", x -> x.college(EMPTY), -1000);
        rich("college, a statement's end lacks", x -> x.college(BYTES), -1003);
    }

    private static void students() {
        for (int s : outside(0, 3)) {
            rich("student(" + s + ", 0)", x -> x.student(s, 0), -1);
        }
        for (int what : outside(0, 5)) {
            rich("student(0, " + what + ")", x -> x.student(0, what), -1);
        }
        full("student(6, 0)", x -> x.student(6, 0), -1);
        newOne("student(0, 0)", x -> x.student(0, 0), -1);
    }

    private static void errors() {
        for (int e : outside(0, 3)) {
            rich("error(" + e + ", 0)", x -> x.error(e, 0), -1);
        }
        for (int what : outside(0, 7)) {
            rich("error(0, " + what + ")", x -> x.error(0, what), -1);
        }
        full("error(12, 0)", x -> x.error(12, 0), -1);
        newOne("error(0, 0)", x -> x.error(0, 0), -1);
    }

    private static void comes() {
        for (int d : outside(0, 7)) {
            rich("comes(" + d + ")", x -> x.comes(d), -1);
            full("comes(" + d + "), no room either", x -> x.comes(d), -1);
        }
        rich("comes, nothing", x -> x.comes(NOTHING), -11);
        rich("comes, a row", x -> x.comes(BYTES), -12);
        full("comes, no room", x -> x.comes(0), -2);
        full("comes, nothing, no room either", x -> x.comes(2), -11);
        full("comes, a row, no room either", x -> x.comes(1), -12);
    }

    private static void errs() {
        for (int s : outside(0, 3)) {
            rich("errs(" + s + ", ..)", x -> x.errs(s, 0, 0, 99), -1);
        }
        for (int topic : outside(0, 5)) {
            rich("errs, topic " + topic, x -> x.errs(0, topic, 0, 99), -1);
            rich("errs, topic " + topic + ", sent down, too", x -> x.errs(2, topic, 0, 99), -1);
            full("errs, topic " + topic + ", no room either", x -> x.errs(0, topic, 0, 99), -1);
        }
        for (int size : outside(0, 99)) {
            rich("errs, size " + size, x -> x.errs(0, 0, size, 99), -1);
            rich("errs, size " + size + ", sent down, too", x -> x.errs(2, 0, size, 99), -1);
            full("errs, size " + size + ", no room either", x -> x.errs(0, 0, size, 99), -1);
        }
        for (int citing : new int[] {LEAST, -1, 4, 11, 12, 98, 100, MOST}) {
            rich("errs, citing " + citing, x -> x.errs(0, 0, 0, citing), -1);
            rich("errs, citing " + citing + ", sent down, too", x -> x.errs(2, 0, 0, citing), -1);
        }
        full("errs, citing 12, no room either", x -> x.errs(0, 0, 0, 12), -1);
        full("errs(6, ..), no room either", x -> x.errs(6, 0, 0, 99), -1);
        rich("errs, sent down", x -> x.errs(2, 0, 0, 99), -3);
        full("errs, sent down, no room either", x -> x.errs(5, 0, 0, 99), -3);
        full("errs, no room", x -> x.errs(0, 0, 0, 99), -2);
        newOne("errs of nobody", x -> x.errs(0, 0, 0, 99), -1);
    }

    private static void corrects() {
        for (int s : outside(0, 3)) {
            rich("corrects(" + s + ", 1)", x -> x.corrects(s, 1), -1);
            rich("corrects(" + s + ", 0), corrected, too", x -> x.corrects(s, 0), -1);
        }
        for (int e : outside(0, 3)) {
            rich("corrects(3, " + e + ")", x -> x.corrects(3, e), -1);
            rich("corrects(2, " + e + "), sent down, too", x -> x.corrects(2, e), -1);
        }
        rich("corrects, sent down", x -> x.corrects(2, 1), -3);
        rich("corrects, his own", x -> x.corrects(1, 1), -3);
        rich("corrects, a corrected one", x -> x.corrects(3, 0), -3);
        rich("corrects, his own corrected one", x -> x.corrects(0, 0), -3);
        rich("corrects, sent down, his own", x -> x.corrects(2, 2), -3);
        newOne("corrects of nobody", x -> x.corrects(0, 0), -1);
    }

    private static void sendsAndWeeks() {
        for (int s : outside(0, 3)) {
            rich("sends(" + s + ")", x -> x.sends(s), -1);
        }
        newOne("sends(0)", x -> x.sends(0), -1);
        for (int n : outside(1, 60)) {
            rich("weeks(" + n + ")", x -> x.weeks(n), -1);
            full("weeks(" + n + "), above 999, too", x -> x.weeks(n), -1);
        }
        full("weeks(1), above 999", x -> x.weeks(1), -3);
        full("weeks(60), above 999", x -> x.weeks(60), -3);
    }

    private static void weeksOn() {
        for (int n : outside(0, 60)) {
            rich("marksThen(0, " + n + ")", x -> x.marksThen(0, n), -1);
            rich("sizeThen(0, " + n + ")", x -> x.sizeThen(0, n), -1);
            rich("firstThen(" + n + ")", x -> x.firstThen(n), -1);
            newOne("firstThen(" + n + ")", x -> x.firstThen(n), -1);
        }
        for (int i : outside(0, 3)) {
            rich("marksThen(" + i + ", 0)", x -> x.marksThen(i, 0), -1);
            rich("sizeThen(" + i + ", 0)", x -> x.sizeThen(i, 0), -1);
            rich("firstWhen(" + i + ")", x -> x.firstWhen(i), -1);
            rich("degree(" + i + ", 1)", x -> x.degree(i, 1), -1);
        }
        for (int v : outside(1, 999)) {
            rich("degree(0, " + v + ")", x -> x.degree(0, v), -1);
        }
        newOne("firstThen(0)", x -> x.firstThen(0), -4);
        newOne("firstWhen(0)", x -> x.firstWhen(0), -1);
        newOne("degree(0, 1)", x -> x.degree(0, 1), -1);
        rich("firstWhen of one who is never first", x -> x.firstWhen(3), -4);
        rich("degree of one without errors", x -> x.degree(3, 1), -4);
    }

    private static void nextErrors() {
        for (int s : outside(0, 3)) {
            rich("next(" + s + ")", x -> x.next(s), -1);
        }
        full("next(6), no room either", x -> x.next(6), -1);
        full("next, no room", x -> x.next(0), -4);
        rich("next, sent down", x -> x.next(2), -4);
        for (int topic : outside(0, 5)) {
            rich("farthest(" + topic + ", 0)", x -> x.farthest(topic, 0), -1);
            rich("farthest(" + topic + ", 1)", x -> x.farthest(topic, 1), -1);
        }
        for (int what : outside(0, 1)) {
            rich("farthest(0, " + what + ")", x -> x.farthest(0, what), -1);
            newOne("farthest(0, " + what + ")", x -> x.farthest(0, what), -1);
        }
    }

    private static void cite() {
        for (int s : outside(0, 3)) {
            rich("cite(" + s + ", 0)", x -> x.cite(s, 0), -1);
            rich("cite(0, " + s + ")", x -> x.cite(0, s), -1);
            rich("cite(2, " + s + "), sent down, too", x -> x.cite(2, s), -1);
        }
        for (int s = 0; s < 4; s++) {
            int one = s;
            rich("cite, " + s + " twice", x -> x.cite(one, one), -1);
        }
        rich("cite, sent down", x -> x.cite(2, 0), -3);
        full("cite, no room", x -> x.cite(0, 1), -4);
        full("cite, one twice, no room either", x -> x.cite(0, 0), -1);
        full("cite(0, 6), no room either", x -> x.cite(0, 6), -1);
        newOne("cite of nobody", x -> x.cite(0, 1), -1);
        Supplier<DegreeInMistakes> noErrors = () -> Check.of("s00;s11;");
        refused(noErrors, "cite without errors", x -> x.cite(0, 1), -4);
        refused(noErrors, "cite without errors, one twice", x -> x.cite(1, 1), -1);
    }

    private static void correct() {
        for (int s : outside(0, 3)) {
            rich("correct(" + s + ", 0)", x -> x.correct(s, 0), -1);
            rich("correct(0, " + s + ")", x -> x.correct(0, s), -1);
            rich("correct(2, " + s + "), sent down, too", x -> x.correct(2, s), -1);
        }
        for (int s = 0; s < 4; s++) {
            int one = s;
            rich("correct, " + s + " twice", x -> x.correct(one, one), -1);
        }
        rich("correct, sent down", x -> x.correct(2, 0), -4);
        newOne("correct of nobody", x -> x.correct(0, 1), -1);
        refused(() -> Check.of("s00;s11;"), "correct without errors", x -> x.correct(0, 1), -4);
    }

    private static void nets() {
        for (int e : outside(0, 3)) {
            rich("cited(" + e + ", 0)", x -> x.cited(e, 0), -1);
            rich("cited(" + e + ", 1)", x -> x.cited(e, 1), -1);
        }
        for (int what : outside(0, 1)) {
            rich("cited(0, " + what + ")", x -> x.cited(0, what), -1);
            rich("topics(" + what + ")", x -> x.topics(what), -1);
            newOne("topics(" + what + ")", x -> x.topics(what), -1);
        }
        for (int what : outside(0, 3)) {
            rich("nets(" + what + ")", x -> x.nets(what), -1);
            newOne("nets(" + what + ")", x -> x.nets(what), -1);
        }
        newOne("nets(0)", x -> x.nets(0), -4);
        newOne("nets(2)", x -> x.nets(2), -4);
        newOne("topics(1)", x -> x.topics(1), -4);
        newOne("cited(0, 0)", x -> x.cited(0, 0), -1);
    }

    private static void votes() {
        for (int s : new int[] {LEAST, -2, 4, MOST}) {
            rich("votes(" + s + ")", x -> x.votes(s), -1);
            rich("examiners(" + s + ")", x -> x.examiners(s), -1);
        }
        for (int s : outside(0, 3)) {
            rich("slips(" + s + ")", x -> x.slips(s), -1);
        }
        rich("slips, sent down", x -> x.slips(2), -4);
        rich("examiners of a corrected one", x -> x.examiners(0), -4);
        newOne("votes(-1)", x -> x.votes(-1), -4);
        newOne("votes(0)", x -> x.votes(0), -1);
        newOne("votes(-2)", x -> x.votes(-2), -1);
        newOne("slips(0)", x -> x.slips(0), -1);
        newOne("examiners(0)", x -> x.examiners(0), -1);
    }

    private static void order() {
        for (int d : outside(0, 7)) {
            rich("order(" + d + ")", x -> x.order(d), -1);
        }
        rich("order, nothing", x -> x.order(NOTHING), -11);
        rich("order, a student", x -> x.order(ONE), -12);
        rich("order, an empty row", x -> x.order(EMPTY), -4);
    }

    private static void whatIs() {
        for (int d : outside(0, 7)) {
            rich("whatIs(" + d + ", 0, 0)", x -> x.whatIs(d, 0, 0), -1);
        }
        for (int e : outside(0, 3)) {
            rich("whatIs(0, " + e + ", 0)", x -> x.whatIs(BYTES, e, 0), -1);
            rich("whatIs, " + e + ", nothing, too", x -> x.whatIs(NOTHING, e, 0), -1);
            rich("whatIs, " + e + ", a student, too", x -> x.whatIs(ONE, e, 0), -1);
        }
        for (int what : outside(0, 1)) {
            rich("whatIs(0, 0, " + what + ")", x -> x.whatIs(BYTES, 0, what), -1);
            rich("whatIs, what " + what + ", nothing, too", x -> x.whatIs(NOTHING, 0, what), -1);
            rich("whatIs, what " + what + ", a student, too", x -> x.whatIs(ONE, 0, what), -1);
        }
        for (int what = 0; what < 2; what++) {
            int asked = what;
            rich("whatIs " + what + ", nothing", x -> x.whatIs(NOTHING, 0, asked), -11);
            rich("whatIs " + what + ", a student", x -> x.whatIs(ONE, 0, asked), -12);
        }
        newOne("whatIs of no error", x -> x.whatIs(0, 0, 0), -1);
    }

    private static void two() {
        for (int s : outside(0, 3)) {
            rich("two(" + s + ", 0)", x -> x.two(s, 0), -1);
            rich("two(0, " + s + ")", x -> x.two(0, s), -1);
            rich("two(2, " + s + "), sent down, too", x -> x.two(2, s), -1);
            rich("two(" + s + ", 3), he has made none, too", x -> x.two(s, 3), -1);
        }
        for (int s = 0; s < 4; s++) {
            int one = s;
            rich("two, " + s + " twice", x -> x.two(one, one), -1);
        }
        rich("two, the one is sent down", x -> x.two(2, 0), -3);
        rich("two, the other is sent down", x -> x.two(0, 2), -3);
        rich("two, the one has made none", x -> x.two(3, 0), -3);
        rich("two, the other has made none", x -> x.two(0, 3), -3);
        rich("two, sent down and has made none", x -> x.two(2, 3), -3);
        newOne("two of nobody", x -> x.two(0, 1), -1);
    }

    private static void fractions() {
        for (int part : outside(0, 1)) {
            rich("worth(0, " + part + ")", x -> x.worth(0, part), OF_LONGS);
            rich("odds, part " + part, x -> x.odds(0, 0, 2, part), OF_LONGS);
            rich("mean(" + part + ")", x -> x.mean(part), OF_LONGS);
            newOne("mean(" + part + ")", x -> x.mean(part), OF_LONGS);
        }
        for (int i : outside(0, 3)) {
            rich("worth(" + i + ", 0)", x -> x.worth(i, 0), OF_LONGS);
            rich("worth(" + i + ", 1)", x -> x.worth(i, 1), OF_LONGS);
            rich("odds(" + i + ", 0, 2, 0)", x -> x.odds(i, 0, 2, 0), OF_LONGS);
        }
        for (int v : outside(0, 999)) {
            rich("odds, v " + v, x -> x.odds(0, v, 2, 1), OF_LONGS);
        }
        for (int t : outside(2, 20)) {
            rich("odds, t " + t, x -> x.odds(0, 0, t, 1), OF_LONGS);
        }
        rich("odds, t 0", x -> x.odds(0, 0, 0, 0), OF_LONGS);
        newOne("worth of none", x -> x.worth(0, 0), OF_LONGS);
        newOne("odds of nobody", x -> x.odds(0, 0, 2, 0), OF_LONGS);
    }

    private static void pages() {
        for (int d : outside(0, 7)) {
            rich("forged(" + d + ")", x -> x.forged(d), -1);
            rich("judge(" + d + ")", x -> x.judge(d), -1);
        }
        rich("forged, nothing", x -> x.forged(NOTHING), -11);
        rich("judge, nothing", x -> x.judge(NOTHING), -11);
        rich("forged, a student", x -> x.forged(ONE), -12);
        rich("judge, a student", x -> x.judge(ONE), -12);
        rich("forged, an empty row", x -> x.forged(EMPTY), -4);
        rich("judge, an empty row", x -> x.judge(EMPTY), -4);
        for (int n : outside(1, 20)) {
            rich("terms(" + n + ", 1, 0)", x -> x.terms(n, 1, 0), -1);
            rich("terms(" + n + ", 1, 1)", x -> x.terms(n, 1, 1), -1);
        }
        for (int what : outside(0, 1)) {
            rich("terms(1, 1, " + what + ")", x -> x.terms(1, 1, what), -1);
        }
    }

    private static void imageAndCount() {
        newOne("restore without an image", x -> x.restore(), -3);
        full("restore without an image", x -> x.restore(), -3);
        for (int what : outside(0, 6)) {
            rich("count(" + what + ")", x -> x.count(what), -1);
        }
    }

    private static void keepAndRow() {
        for (int d : outside(0, 7)) {
            rich("keep(" + d + ", 0, ..)", x -> x.keep(d, 0, 0, 0), -1);
            rich("keep(" + d + ", 1, ..)", x -> x.keep(d, 1, 0, 0), -1);
            rich("row(" + d + ", 0, 1)", x -> x.row(d, 0, 1), -1);
            rich("row(" + d + ", 0, -1), below 0, too", x -> x.row(d, 0, -1), -1);
        }
        for (int shelf : new int[] {BYTES, ONE, NOTHING}) {
            for (int what : outside(0, 1)) {
                rich("keep(" + shelf + ", " + what + ", ..)", x -> x.keep(shelf, what, 0, 0), -1);
            }
            for (int kind : outside(0, 7)) {
                rich("keep(" + shelf + ", ..) of kind " + kind, x -> x.keep(shelf, 1, kind, 0), -1);
            }
            for (int figure : outside(0, 9)) {
                rich("keep(" + shelf + ", ..) of figure " + figure, x -> x.keep(shelf, 1, 0, figure), -1);
            }
            for (int sort : outside(0, 2)) {
                rich("row(" + shelf + ", " + sort + ", 1)", x -> x.row(shelf, sort, 1), -1);
                rich("row(" + shelf + ", " + sort + ", -1), below 0, too", x -> x.row(shelf, sort, -1), -1);
            }
            rich("row(" + shelf + ", 0, 101)", x -> x.row(shelf, 0, 101), -1);
            rich("row(" + shelf + ", 0, most)", x -> x.row(shelf, 0, MOST), -1);
            rich("row(" + shelf + ", 0, -1)", x -> x.row(shelf, 0, -1), -14);
            rich("row(" + shelf + ", 2, least)", x -> x.row(shelf, 2, LEAST), -14);
        }
    }

    private static void putAndElement() {
        for (int d : outside(0, 7)) {
            rich("put(" + d + ", 0, 1)", x -> x.put(d, 0, 1), -1);
            rich("put(" + d + ", -1, 1), no such place either", x -> x.put(d, -1, 1), -1);
            rich("element(" + d + ", 0) throws", x -> Check.thrownBy(x, d, 0), 1);
            rich("element(" + d + ", -1) throws", x -> Check.thrownBy(x, d, -1), 1);
        }
        rich("put, nothing", x -> x.put(NOTHING, 0, 1), -11);
        rich("put, nothing, no such place either", x -> x.put(NOTHING, -1, 1), -11);
        rich("put, a student", x -> x.put(ONE, 0, 1), -12);
        rich("put, a student, no such place either", x -> x.put(ONE, 100, 1), -12);
        rich("element, nothing, throws", x -> Check.thrownBy(x, NOTHING, 0), 2);
        rich("element, a student, throws", x -> Check.thrownBy(x, ONE, 0), 2);
        for (int i : outside(0, 1)) {
            rich("put(1, " + i + ", 1)", x -> x.put(SHORTS, i, 1), -13);
            rich("element(1, " + i + ") throws", x -> Check.thrownBy(x, SHORTS, i), 2);
        }
        rich("put, an empty row", x -> x.put(EMPTY, 0, 1), -13);
        rich("element, an empty row, throws", x -> Check.thrownBy(x, EMPTY, 0), 2);
    }

    private static void copy() {
        for (int d : outside(0, 7)) {
            rich("copy from " + d, x -> x.copy(d, 0, BYTES, 0, 1), -1);
            rich("copy to " + d, x -> x.copy(BYTES, 0, d, 0, 1), -1);
            rich("copy from " + d + " to nothing", x -> x.copy(d, 0, NOTHING, 0, 1), -1);
            rich("copy from a student to " + d, x -> x.copy(ONE, 0, d, 0, 1), -1);
            rich("copy to " + d + ", n -1", x -> x.copy(BYTES, 0, d, 0, -1), -1);
        }
        rich("copy from nothing", x -> x.copy(NOTHING, 0, BYTES, 0, 1), -11);
        rich("copy to nothing", x -> x.copy(BYTES, 0, NOTHING, 0, 1), -11);
        rich("copy from nothing to nothing", x -> x.copy(NOTHING, 0, NOTHING, 0, 1), -11);
        rich("copy from a student to nothing", x -> x.copy(ONE, 0, NOTHING, 0, 1), -11);
        rich("copy from nothing to a student", x -> x.copy(NOTHING, 0, ONE, 0, 1), -11);
        rich("copy from nothing, n -1", x -> x.copy(NOTHING, 0, BYTES, 0, -1), -11);
        rich("copy from a student", x -> x.copy(ONE, 0, BYTES, 0, 1), -12);
        rich("copy to a student", x -> x.copy(BYTES, 0, ONE, 0, 1), -12);
        rich("copy from a student to a student", x -> x.copy(ONE, 0, NO_FAILURE, 0, 1), -12);
        rich("copy from bytes to shorts", x -> x.copy(BYTES, 0, SHORTS, 0, 1), -12);
        rich("copy from ints to shorts", x -> x.copy(INTS, 0, SHORTS, 0, 1), -12);
        rich("copy from ints to bytes, n -1", x -> x.copy(INTS, 0, BYTES, 0, -1), -12);
        rich("copy 0 from ints to bytes", x -> x.copy(INTS, 0, BYTES, 0, 0), -12);
        copyPlaces();
    }

    private static void copyPlaces() {
        for (int n : new int[] {LEAST, -1, 4, MOST}) {
            rich("copy, n " + n, x -> x.copy(INTS, 0, INTS, 0, n), -13);
        }
        for (int i : new int[] {LEAST, -1, 3, 4, MOST}) {
            rich("copy 1 from place " + i, x -> x.copy(INTS, i, INTS, 0, 1), -13);
            rich("copy 1 to place " + i, x -> x.copy(INTS, 0, INTS, i, 1), -13);
        }
        for (int i : new int[] {LEAST, -1, 4, MOST}) {
            rich("copy 0 from place " + i, x -> x.copy(INTS, i, INTS, 0, 0), -13);
            rich("copy 0 to place " + i, x -> x.copy(INTS, 0, INTS, i, 0), -13);
        }
        rich("copy 3 from place 1", x -> x.copy(INTS, 1, INTS, 0, 3), -13);
        rich("copy 3 to place 1", x -> x.copy(INTS, 0, INTS, 1, 3), -13);
        rich("copy the most from place 1", x -> x.copy(INTS, 1, INTS, 1, MOST), -13);
        rich("copy 1 from an empty row", x -> x.copy(EMPTY, 0, BYTES, 0, 1), -13);
        rich("copy 1 to an empty row", x -> x.copy(BYTES, 0, EMPTY, 0, 1), -13);
    }

    private static void costAndToss() {
        for (int d : outside(0, 7)) {
            rich("cost(" + d + ")", x -> x.cost(d), -1);
            rich("toss(" + d + ")", x -> x.toss(d), -1);
        }
        rich("cost, nothing", x -> x.cost(NOTHING), -11);
        rich("toss, nothing", x -> x.toss(NOTHING), -11);
        rich("cost, a row", x -> x.cost(BYTES), -12);
        rich("toss, a row", x -> x.toss(EMPTY), -12);
        rich("toss of a freshman", x -> x.toss(NO_FAILURE), -15);
    }
}
