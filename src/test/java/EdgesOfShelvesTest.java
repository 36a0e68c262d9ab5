/** Promises 37 to 43 at their edges: what shelves hold, and what a row keeps. */
public final class EdgesOfShelvesTest {
    private static final Check CHECK = new Check("EdgesOfShelvesTest");
    private static final int LEAST = Integer.MIN_VALUE;
    private static final int MOST = Integer.MAX_VALUE;

    public static void main(String[] args) {
        nothingAtFirst();
        eightShelves();
        anotherIsHeldInstead();
        othersDoNotMatter();
        rowsOfNoneAndOfAHundred();
        zeroAtFirst();
        lowestBits();
        firstAndLastPlace();
        copyOfNone();
        copyOfAHundred();
        copyInItself();
        copyIsNoMoreThanThat();
        whatIsTakenStays();
        costs();
        failures();
        CHECK.end();
    }

    private static void due(String call, long got, long want) {
        CHECK.due(call, got, want);
    }

    private static void holds(DegreeInMistakes x, int d, long... want) {
        for (int i = 0; i < want.length; i++) {
            due("element " + i, x.element(d, i), want[i]);
        }
        due("no more elements", Check.thrownBy(x, d, want.length), 2);
    }

    private static void nothingAtFirst() {
        DegreeInMistakes x = new DegreeInMistakes();
        for (int d = 0; d < 8; d++) {
            due("cost", x.cost(d), -11);
            due("put", x.put(d, 0, 0), -11);
            due("element throws", Check.thrownBy(x, d, 0), 2);
        }
    }

    private static void eightShelves() {
        DegreeInMistakes x = new DegreeInMistakes();
        for (int d = 0; d < 8; d++) {
            due("keep", x.keep(d, 1, 2, d), 0);
        }
        for (int d = 0; d < 8; d++) {
            due("each its own", x.cost(d), 1 + d);
        }
        for (int d = 0; d < 8; d++) {
            due("row", x.row(d, 2, 1), 0);
            due("put", x.put(d, 0, d - 4), 0);
        }
        for (int d = 0; d < 8; d++) {
            holds(x, d, d - 4);
        }
    }

    private static void anotherIsHeldInstead() {
        DegreeInMistakes x = new DegreeInMistakes();
        x.keep(0, 1, 1, 9);
        x.row(0, 0, 3);
        due("a row instead of one", x.cost(0), -12);
        holds(x, 0, 0, 0, 0);
        x.keep(0, 1, 6, 8);
        due("one instead of a row", x.put(0, 0, 1), -12);
        due("cost", x.cost(0), 18);
        x.keep(0, 1, 1, 1);
        due("another one", x.toss(0), 101);
        x.keep(0, 0, 1, 1);
        due("nothing instead of one", x.cost(0), -11);
        x.row(0, 1, 3);
        x.keep(0, 0, 1, 1);
        due("nothing instead of a row", x.put(0, 0, 1), -11);
        x.row(0, 0, 3);
        x.row(0, 2, 1);
        x.put(0, 0, 70000);
        holds(x, 0, 70000);
    }

    private static void othersDoNotMatter() {
        DegreeInMistakes x = new DegreeInMistakes();
        int[] any = {LEAST, -1, 8, 10, MOST};
        for (int k : any) {
            x.keep(0, 1, 0, 0);
            due("nothing, kind " + k, x.keep(0, 0, k, 0), 0);
            due("held", x.cost(0), -11);
            x.row(0, 0, 1);
            due("nothing, figure " + k, x.keep(0, 0, 0, k), 0);
            due("held", x.cost(0), -11);
            due("nothing twice", x.keep(0, 0, k, k), 0);
        }
    }

    private static void rowsOfNoneAndOfAHundred() {
        for (int sort = 0; sort < 3; sort++) {
            DegreeInMistakes x = new DegreeInMistakes();
            due("none", x.row(0, sort, 0), 0);
            holds(x, 0);
            due("no place 0", x.put(0, 0, 1), -13);
            due("a hundred", x.row(0, sort, 100), 0);
            due("place 99", x.put(0, 99, 9), 0);
            due("no place 100", x.put(0, 100, 9), -13);
            due("element 99", x.element(0, 99), 9);
            due("element 100 throws", Check.thrownBy(x, 0, 100), 2);
            due("a hundred and one", x.row(0, sort, 101), -1);
            due("element 99 still", x.element(0, 99), 9);
        }
    }

    private static void zeroAtFirst() {
        for (int sort = 0; sort < 3; sort++) {
            DegreeInMistakes x = new DegreeInMistakes();
            Check.fill(x, 3, 2, 1, 2, 3);
            x.row(3, sort, 2);
            holds(x, 3, 0, 0);
            x.row(3, sort, 4);
            holds(x, 3, 0, 0, 0, 0);
            x.put(3, 3, 1);
            x.keep(3, 0, 0, 0);
            x.row(3, sort, 4);
            holds(x, 3, 0, 0, 0, 0);
            x.put(3, 0, 1);
            x.keep(3, 1, 0, 0);
            x.row(3, sort, 4);
            holds(x, 3, 0, 0, 0, 0);
        }
    }

    private static void lowestBits() {
        int[] told = {127, 128, 255, 256, -128, -129, -256, 32767, 32768, 65535, 65536, -32768, -32769, LEAST, MOST};
        long[] bytes = {127, -128, -1, 0, -128, 127, 0, -1, 0, -1, 0, 0, -1, 0, -1};
        long[] shorts = {127, 128, 255, 256, -128, -129, -256, 32767, -32768, -1, 0, -32768, 32767, 0, -1};
        DegreeInMistakes x = new DegreeInMistakes();
        x.row(0, 0, 1);
        x.row(1, 1, 1);
        x.row(2, 2, 1);
        for (int i = 0; i < told.length; i++) {
            for (int d = 0; d < 3; d++) {
                due("put", x.put(d, 0, told[i]), 0);
            }
            due("byte of " + told[i], x.element(0, 0), bytes[i]);
            due("short of " + told[i], x.element(1, 0), shorts[i]);
            due("int of " + told[i], x.element(2, 0), told[i]);
        }
    }

    private static void firstAndLastPlace() {
        DegreeInMistakes x = new DegreeInMistakes();
        x.row(0, 1, 3);
        due("the first", x.put(0, 0, 7), 0);
        due("the last", x.put(0, 2, 9), 0);
        due("ahead of the first", x.put(0, -1, 1), -13);
        due("behind the last", x.put(0, 3, 1), -13);
        holds(x, 0, 7, 0, 9);
    }

    private static void copyOfNone() {
        DegreeInMistakes x = new DegreeInMistakes();
        Check.fill(x, 0, 1, 1, 2);
        Check.fill(x, 1, 1, 3);
        x.row(2, 1, 0);
        due("from the start", x.copy(0, 0, 1, 0, 0), 0);
        due("at both ends", x.copy(0, 2, 1, 1, 0), 0);
        due("of an empty row", x.copy(2, 0, 2, 0, 0), 0);
        due("behind an end", x.copy(0, 3, 1, 0, 0), -13);
        due("behind the other end", x.copy(0, 0, 1, 2, 0), -13);
        holds(x, 0, 1, 2);
        holds(x, 1, 3);
    }

    private static void copyOfAHundred() {
        DegreeInMistakes x = new DegreeInMistakes();
        for (int d = 0; d < 2; d++) {
            x.row(d, 0, 100);
        }
        x.put(0, 0, 1);
        x.put(0, 99, 2);
        due("all", x.copy(0, 0, 1, 0, 100), 100);
        due("the first", x.element(1, 0), 1);
        due("the last", x.element(1, 99), 2);
        due("one more", x.copy(0, 0, 1, 0, 101), -13);
        due("one place on", x.copy(0, 1, 1, 0, 100), -13);
        due("to one place on", x.copy(0, 0, 1, 1, 100), -13);
        due("the last to the first", x.copy(0, 99, 1, 0, 1), 1);
        due("the first", x.element(1, 0), 2);
        due("the first to the last", x.copy(0, 0, 1, 99, 1), 1);
        due("the last", x.element(1, 99), 1);
    }

    private static void copyInItself() {
        for (int sort = 0; sort < 3; sort++) {
            DegreeInMistakes x = new DegreeInMistakes();
            Check.fill(x, 0, sort, 1, 2, 3, 4, 5);
            due("all to where it is", x.copy(0, 0, 0, 0, 5), 5);
            holds(x, 0, 1, 2, 3, 4, 5);
            due("upward", x.copy(0, 0, 0, 2, 3), 3);
            holds(x, 0, 1, 2, 1, 2, 3);
            due("downward", x.copy(0, 1, 0, 0, 4), 4);
            holds(x, 0, 2, 1, 2, 3, 3);
        }
    }

    private static void copyIsNoMoreThanThat() {
        DegreeInMistakes x = new DegreeInMistakes();
        Check.fill(x, 0, 2, LEAST, MOST, 3);
        Check.fill(x, 1, 2, 7, 8, 9, 10);
        due("two", x.copy(0, 0, 1, 1, 2), 2);
        holds(x, 1, 7, LEAST, MOST, 10);
        x.put(0, 0, 5);
        holds(x, 1, 7, LEAST, MOST, 10);
        x.put(1, 1, 6);
        holds(x, 0, 5, MOST, 3);
    }

    private static void whatIsTakenStays() {
        DegreeInMistakes x = new DegreeInMistakes();
        x.keep(0, 1, 4, 9);
        due("comes", x.comes(0), 0);
        due("held still", x.cost(0), 10);
        due("comes once more", x.comes(0), 1);
        x.keep(0, 1, 1, 1);
        due("he is what he was, kind", x.student(0, 0), 4);
        due("he is what he was, figure", x.student(0, 1), 9);
        due("comes, another one", x.comes(0), 2);
        due("of another kind", x.student(2, 0), 1);
        x.keep(0, 0, 0, 0);
        due("students", x.count(0), 3);
        Check.fill(x, 1, 1, 0, 0);
        x.errs(0, 0, 0, 99);
        x.order(1);
        x.forged(1);
        x.judge(1);
        x.whatIs(1, 0, 0);
        holds(x, 1, 0, 0);
    }

    private static void costs() {
        DegreeInMistakes x = new DegreeInMistakes();
        for (int figure = 0; figure < 10; figure++) {
            int[] want = {1, 5, 1 + figure, 10, 1 + figure, 3, 10 + figure, 0};
            for (int kind = 0; kind < 8; kind++) {
                x.keep(kind, 1, kind, figure);
                due("cost of kind " + kind + ", figure " + figure, x.cost(kind), want[kind]);
            }
        }
    }

    private static void failures() {
        DegreeInMistakes x = new DegreeInMistakes();
        for (int kind = 0; kind < 8; kind++) {
            x.keep(0, 1, kind, 0);
            due("figure 0 has none, kind " + kind, x.toss(0), -15);
        }
        int[] least = {1, 101, -15, 101, -15, 101, 211, 1};
        int[] most = {9, 109, -15, 109, -15, 109, 219, 9};
        for (int kind = 0; kind < 8; kind++) {
            x.keep(0, 1, kind, 1);
            due("figure 1, kind " + kind, x.toss(0), least[kind]);
            x.keep(0, 1, kind, 9);
            due("figure 9, kind " + kind, x.toss(0), most[kind]);
            due("held still, kind " + kind, x.toss(0), most[kind]);
        }
    }
}
