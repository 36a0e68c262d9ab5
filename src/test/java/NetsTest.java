/** Promises 19 to 22: cited, worth, nets, topics. */
public final class NetsTest {
    private static final Check CHECK = new Check("NetsTest");

    public static void main(String[] args) {
        cited();
        worth();
        nets();
        topics();
        CHECK.end();
    }

    private static void due(String call, long got, long want) {
        CHECK.due(call, got, want);
    }

    /** 0 is cited by 1 and 2, 1 by 3 and 5, 4 stands alone, 6 cites 2. */
    private static DegreeInMistakes tree() {
        return Check.of("s00;e000099;e010000;e020000;e010001;e030099;e040001;e050002;");
    }

    private static DegreeInMistakes chainOf12() {
        DegreeInMistakes x = Check.of("s00;e000099;");
        for (int e = 1; e < 12; e++) {
            x.errs(0, 0, 0, e - 1);
        }
        return x;
    }

    private static void cited() {
        DegreeInMistakes x = tree();
        int[] ends = {5, 2, 1, 0, 0, 0, 0};
        int[] depths = {1, 2, 2, 3, 1, 3, 3};
        for (int e = 0; e < 7; e++) {
            due("cited(" + e + ", 0)", x.cited(e, 0), ends[e]);
            due("cited(" + e + ", 1)", x.cited(e, 1), depths[e]);
        }
        due("cited(7, 0)", x.cited(7, 0), -1);
        due("cited(-1, 0)", x.cited(-1, 0), -1);
        due("cited(0, 2)", x.cited(0, 2), -1);
        due("cited(0, -1)", x.cited(0, -1), -1);
        x = chainOf12();
        due("a chain of 12, cited", x.cited(0, 0), 11);
        due("a chain of 12, depth", x.cited(11, 1), 12);
    }

    private static void worth() {
        DegreeInMistakes x = tree();
        // 3, 4, 5, 6: 1; 2: 3/2; 1: 2; 0: 1 + 1 + 3/4.
        long[] above = {11, 2, 3, 1, 1, 1, 1};
        long[] below = {4, 1, 2, 1, 1, 1, 1};
        for (int e = 0; e < 7; e++) {
            due("worth(" + e + ", 0)", x.worth(e, 0), above[e]);
            due("worth(" + e + ", 1)", x.worth(e, 1), below[e]);
        }
        due("worth(7, 0)", x.worth(7, 0), 1000000001L);
        due("worth(-1, 0)", x.worth(-1, 0), 1000000001L);
        due("worth(0, 2)", x.worth(0, 2), 1000000001L);
        due("worth(0, -1)", x.worth(0, -1), 1000000001L);
        x = chainOf12();
        due("a chain of 12, above", x.worth(0, 0), 4095);
        due("a chain of 12, below", x.worth(0, 1), 2048);
    }

    private static void nets() {
        DegreeInMistakes x = tree();
        due("dearest", x.nets(0), 0);
        due("longest", x.nets(1), 3);
        due("where it ends", x.nets(2), 3);
        due("alone", x.nets(3), 16);
        due("nets(4)", x.nets(4), -1);
        due("nets(-1)", x.nets(-1), -1);
        x = Check.of("s00;e000099;e000099;e000099;e000001;e000002;");
        due("the dearer one", x.nets(0), 1);
        due("ends at", x.nets(2), 3);
        due("alone", x.nets(3), 1);
        x = Check.of("s00;e000099;e000099;");
        due("a chain of one", x.nets(1), 1);
        due("the first ends there", x.nets(2), 0);
        x = new DegreeInMistakes();
        due("dearest of none", x.nets(0), -4);
        due("longest of none", x.nets(1), 0);
        due("where none ends", x.nets(2), -4);
        due("none alone", x.nets(3), 0);
        due("nets(4) of none", x.nets(4), -1);
    }

    private static void topics() {
        DegreeInMistakes x = tree();
        due("topics", x.topics(0), 63);
        due("with most", x.topics(1), 1);
        due("topics(2)", x.topics(2), -1);
        due("topics(-1)", x.topics(-1), -1);
        x = Check.of("s00;e050099;e030099;");
        due("bits", x.topics(0), 40);
        due("the least of several", x.topics(1), 3);
        x.errs(0, 5, 0, 99);
        due("with most", x.topics(1), 5);
        x = new DegreeInMistakes();
        due("no topics", x.topics(0), 0);
        due("no topic with most", x.topics(1), -4);
        due("topics(2) of none", x.topics(2), -1);
    }
}
