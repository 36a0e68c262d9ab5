/** Promises 37 to 43: keep, row, put, element, copy, cost, toss. */
public final class ShelvesTest {
    private static final Check CHECK = new Check("ShelvesTest");

    public static void main(String[] args) {
        keep();
        row();
        put();
        element();
        copy();
        costAndToss();
        CHECK.end();
    }

    private static void due(String call, long got, long want) {
        CHECK.due(call, got, want);
    }

    private static void keep() {
        DegreeInMistakes x = new DegreeInMistakes();
        due("keep(-1, ..)", x.keep(-1, 0, 0, 0), -1);
        due("keep(8, ..)", x.keep(8, 1, 0, 0), -1);
        due("what -1", x.keep(0, -1, 0, 0), -1);
        due("what 2", x.keep(0, 2, 0, 0), -1);
        due("kind -1", x.keep(0, 1, -1, 0), -1);
        due("kind 8", x.keep(0, 1, 8, 0), -1);
        due("figure -1", x.keep(0, 1, 0, -1), -1);
        due("figure 10", x.keep(0, 1, 0, 10), -1);
        due("nothing is held yet", x.cost(0), -11);
        due("keep", x.keep(7, 1, 7, 9), 0);
        due("held", x.toss(7), 9);
        due("refused", x.keep(7, 1, 8, 9), -1);
        due("held as ahead of it", x.toss(7), 9);
        due("the others do not matter", x.keep(7, 0, 88, -5), 0);
        due("nothing", x.toss(7), -11);
    }

    private static void row() {
        DegreeInMistakes x = new DegreeInMistakes();
        due("row(-1, ..)", x.row(-1, 0, 0), -1);
        due("row(8, ..)", x.row(8, 0, 0), -1);
        due("sort -1", x.row(0, -1, 0), -1);
        due("sort 3", x.row(0, 3, 0), -1);
        due("n 101", x.row(0, 0, 101), -1);
        due("n -1", x.row(0, 0, -1), -14);
        due("n least", x.row(0, 2, Integer.MIN_VALUE), -14);
        due("-1 ahead of -14", x.row(0, 3, -1), -1);
        due("-1 ahead of -14", x.row(8, 0, -1), -1);
        due("nothing is held yet", x.put(0, 0, 0), -11);
        due("n 100", x.row(0, 0, 100), 0);
        due("the last place", x.put(0, 99, 5), 0);
        due("refused", x.row(0, 0, -1), -14);
        due("as ahead of it", x.element(0, 99), 5);
        due("n 100 once more", x.row(0, 1, 100), 0);
        due("0 at first", x.element(0, 99), 0);
        x.put(0, 0, 5);
        due("n 1", x.row(0, 1, 1), 0);
        due("0 at first", x.element(0, 0), 0);
        due("n 0", x.row(0, 2, 0), 0);
        due("no place", x.put(0, 0, 0), -13);
    }

    private static void put() {
        DegreeInMistakes x = new DegreeInMistakes();
        due("put(-1, ..)", x.put(-1, 0, 0), -1);
        due("put(8, ..)", x.put(8, 0, 0), -1);
        due("put(0, ..)", x.put(0, 0, 0), -11);
        x.keep(0, 1, 0, 0);
        due("one", x.put(0, 0, 0), -12);
        x.row(0, 0, 2);
        due("place -1", x.put(0, -1, 0), -13);
        due("place 2", x.put(0, 2, 0), -13);
        long[][] want = {{127, -128, -1, 0, 44}, {127, 128, 255, 256, 300}, {127, 128, 255, 256, 300}};
        int[] values = {127, 128, 255, 256, 300};
        for (int sort = 0; sort < 3; sort++) {
            x.row(0, sort, 5);
            for (int i = 0; i < 5; i++) {
                due("put", x.put(0, i, values[i]), 0);
                due("element of sort " + sort, x.element(0, i), want[sort][i]);
            }
        }
        x.row(0, 1, 1);
        x.put(0, 0, 65535);
        due("short", x.element(0, 0), -1);
        x.put(0, 0, -32769);
        due("short", x.element(0, 0), 32767);
        x.row(0, 2, 1);
        x.put(0, 0, Integer.MIN_VALUE);
        due("int", x.element(0, 0), Integer.MIN_VALUE);
    }

    private static void element() {
        DegreeInMistakes x = new DegreeInMistakes();
        due("element(-1, 0) throws", Check.thrownBy(x, -1, 0), 1);
        due("element(8, 0) throws", Check.thrownBy(x, 8, 0), 1);
        due("element(0, 0) of nothing throws", Check.thrownBy(x, 0, 0), 2);
        x.keep(0, 1, 0, 0);
        due("element(0, 0) of one throws", Check.thrownBy(x, 0, 0), 2);
        x.row(0, 0, 2);
        due("element(0, 2) throws", Check.thrownBy(x, 0, 2), 2);
        due("element(0, -1) throws", Check.thrownBy(x, 0, -1), 2);
        due("element(0, 1) throws", Check.thrownBy(x, 0, 1), 0);
        due("element(0, 1)", x.element(0, 1), 0);
    }

    private static void same(DegreeInMistakes x, int d, long... want) {
        for (int i = 0; i < want.length; i++) {
            due("element(" + d + ", " + i + ")", x.element(d, i), want[i]);
        }
    }

    private static void copy() {
        DegreeInMistakes x = new DegreeInMistakes();
        Check.fill(x, 0, 1, 1, 2, 3, 4, 5);
        due("copy to nothing", x.copy(0, 0, 1, 0, 1), -11);
        due("copy from nothing", x.copy(1, 0, 0, 0, 1), -11);
        due("no such shelf ahead of it", x.copy(8, 0, 1, 0, 1), -1);
        due("no such shelf", x.copy(0, 0, -1, 0, 1), -1);
        x.keep(2, 1, 0, 0);
        due("one, and nothing", x.copy(2, 0, 1, 0, 1), -11);
        due("copy to one", x.copy(0, 0, 2, 0, 1), -12);
        due("copy from one", x.copy(2, 0, 0, 0, 1), -12);
        x.row(2, 1, 5);
        x.keep(2, 1, 0, 0);
        due("copy to one where a row was", x.copy(0, 0, 2, 0, 1), -12);
        due("copy from one where a row was", x.copy(2, 0, 0, 0, 1), -12);
        x.row(1, 0, 3);
        due("of another sort", x.copy(0, 0, 1, 0, 1), -12);
        due("of another sort ahead of places", x.copy(0, 9, 1, 9, -1), -12);
        x.row(1, 1, 3);
        due("n -1", x.copy(0, 0, 1, 0, -1), -13);
        due("i -1", x.copy(0, -1, 1, 0, 1), -13);
        due("j -1", x.copy(0, 0, 1, -1, 1), -13);
        due("from behind its end", x.copy(0, 3, 1, 0, 3), -13);
        due("to behind its end", x.copy(0, 0, 1, 1, 3), -13);
        due("i greatest", x.copy(0, Integer.MAX_VALUE, 1, 0, 1), -13);
        due("j greatest", x.copy(0, 0, 1, Integer.MAX_VALUE, 3), -13);
        due("n greatest", x.copy(0, 1, 1, 1, Integer.MAX_VALUE), -13);
        due("n least", x.copy(0, 1, 1, 1, Integer.MIN_VALUE), -13);
        same(x, 1, 0, 0, 0);
        due("copy", x.copy(0, 1, 1, 0, 3), 3);
        same(x, 1, 2, 3, 4);
        due("none", x.copy(0, 0, 1, 0, 0), 0);
        due("none at the ends", x.copy(0, 5, 1, 3, 0), 0);
        due("upward in itself", x.copy(0, 0, 0, 1, 4), 4);
        same(x, 0, 1, 1, 2, 3, 4);
        due("downward in itself", x.copy(0, 2, 0, 0, 3), 3);
        same(x, 0, 2, 3, 4, 3, 4);
    }

    private static void costAndToss() {
        DegreeInMistakes x = new DegreeInMistakes();
        due("cost(-1)", x.cost(-1), -1);
        due("cost(8)", x.cost(8), -1);
        due("cost(0)", x.cost(0), -11);
        due("toss(-1)", x.toss(-1), -1);
        due("toss(8)", x.toss(8), -1);
        due("toss(0)", x.toss(0), -11);
        x.row(0, 0, 0);
        due("cost of a row", x.cost(0), -12);
        due("toss of a row", x.toss(0), -12);
        for (int figure = 0; figure < 10; figure++) {
            int[] costs = {1, 5, 1 + figure, 10, 1 + figure, 3, 10 + figure, 0};
            int[] tossed = {figure, 100 + figure, -15, 100 + figure, -15, 100 + figure, 210 + figure, figure};
            for (int kind = 0; kind < 8; kind++) {
                x.keep(0, 1, kind, figure);
                String one = " of kind " + kind + ", figure " + figure;
                due("cost" + one, x.cost(0), costs[kind]);
                due("toss" + one, x.toss(0), figure == 0 ? -15 : tossed[kind]);
                due("held still" + one, x.cost(0), costs[kind]);
            }
        }
    }
}
