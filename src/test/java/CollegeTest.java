/** Promises 1 to 9: a new object, college, student, error, comes, errs, corrects, sends, weeks. */
public final class CollegeTest {
    private static final Check CHECK = new Check("CollegeTest");

    public static void main(String[] args) {
        newObject();
        collegeForm();
        collegeDeeds();
        collegeRefusals();
        students();
        errors();
        kindsAreMarked();
        comes();
        errs();
        corrects();
        sends();
        weeks();
        kindsRipen();
        CHECK.end();
    }

    private static void due(String call, long got, long want) {
        CHECK.due(call, got, want);
    }

    private static void newObject() {
        DegreeInMistakes x = new DegreeInMistakes();
        for (int what = 0; what <= 6; what++) {
            due("new count(" + what + ")", x.count(what), 0);
        }
        due("new student(0, 0)", x.student(0, 0), -1);
        due("new error(0, 0)", x.error(0, 0), -1);
        due("new restore()", x.restore(), -3);
        for (int d = 0; d < 8; d++) {
            due("new comes(" + d + ")", x.comes(d), -11);
        }
    }

    private static void fault(String text, int want) {
        DegreeInMistakes x = new DegreeInMistakes();
        due("college of \"" + text + "\"", Check.tell(x, text), want);
        if (want < 0) {
            due("students behind the fault of \"" + text + "\"", x.count(0), 0);
            due("week behind the fault of \"" + text + "\"", x.count(2), 0);
        }
    }

    private static void collegeForm() {
        fault("", -1000);
        fault("x", -1000);
        fault(";", -1000);
        fault("S00;", -1000);
        fault("s", -1001);
        fault("s0", -1002);
        fault("s00", -1003);
        fault("s00;", 1);
        fault("s00;s", -1005);
        fault("s00; s00;", -1004);
        fault("s0;", -1002);
        fault("s000;", -1003);
        fault("sx0;", -1001);
        fault("s00:", -1003);
        fault("e000099", -1007);
        fault("e00009;", -1006);
        fault("e0000990;", -1007);
        fault("c00;", -1003);
        fault("c0000;", -1004);
        fault("d;", -1001);
        fault("d00;", -1002);
        fault("w1;", -1002);
        fault("w100;", -1003);
        fault("s/0;", -1001);
        fault("s:0;", -1001);
        // A fault of form is told ahead of one of a deed, wherever it stands.
        fault("s80;w", -1005);
        fault("d0;q", -1003);
        DegreeInMistakes x = new DegreeInMistakes();
        Check.write(x, 0, "s00;");
        x.put(0, 3, -59);
        due("college with a byte below 0", x.college(0), -1003);
    }

    private static void collegeDeeds() {
        fault("s00;s79;", 2);
        fault("s80;", -2000);
        fault("s90;", -2000);
        fault("s00;s80;", -2004);
        fault("e000099;", -2000);
        fault("s00;e060099;", -2004);
        fault("s00;e050099;", 2);
        fault("s00;e009999;", 2);
        fault("s00;e000000;", -2004);
        fault("s00;e000099;e000000;e000001;", 4);
        fault("s00;e000099;e000001;", -2012);
        fault("s00;e100099;", -2004);
        fault("s00;c000;", -2004);
        fault("s00;e000099;c000;", -2012);
        fault("s00;s00;e000099;c100;", 4);
        fault("s00;s00;e000099;c101;", -2016);
        fault("s00;s00;e000099;c100;c100;", -2021);
        fault("s00;s00;s00;e000099;c100;c200;", -2025);
        fault("s00;s00;e000099;d1;c100;", -2019);
        fault("s00;s00;e000099;d1;d1;c100;", 6);
        fault("s00;d0;e000099;", -2007);
        fault("d0;", -2000);
        fault("s00;d1;", -2004);
        fault("w00;", -2000);
        fault("w01;", 1);
        fault("w60;", 1);
        fault("w61;", -2000);
        fault("s00;s00;s00;s00;s00;s00;", 6);
        fault("s00;s00;s00;s00;s00;s00;s00;", -2024);
        DegreeInMistakes x = new DegreeInMistakes();
        for (int i = 0; i < 16; i++) {
            due("w60; once more", Check.tell(x, "w60;"), 1);
        }
        due("weeks so far", x.count(2), 960);
        due("w40; above 999", Check.tell(x, "w40;"), -2000);
        due("w39;w01;", Check.tell(x, "w39;w01;"), -2004);
        due("nothing of it came", x.count(2), 960);
        due("w39;", Check.tell(x, "w39;"), 1);
        due("week 999", x.count(2), 999);

        x = Check.of("s00;", "e000099;e000099;e000099;e000099;e000099;e000099;e000099;e000099;e000099;e000099;e000099;");
        due("no room for errors", Check.tell(x, "e000099;e000099;"), -2008);
        due("errors then", x.count(1), 11);
        due("a text comes to what is there", Check.tell(x, "e000009;"), 1);
        due("cited", x.error(9, 5), 1);
        due("the text stays", x.college(7), -2000);
    }

    private static void collegeRefusals() {
        DegreeInMistakes x = new DegreeInMistakes();
        due("college(-1)", x.college(-1), -1);
        due("college(8)", x.college(8), -1);
        due("college(0) of nothing", x.college(0), -11);
        x.keep(0, 1, 0, 0);
        due("college(0) of one", x.college(0), -12);
        x.row(0, 1, 4);
        due("college(0) of shorts", x.college(0), -12);
        x.row(0, 2, 4);
        due("college(0) of ints", x.college(0), -12);
        x.row(0, 0, 4);
        due("college(0) of zeros", x.college(0), -1000);
    }

    private static void students() {
        DegreeInMistakes x = Check.of("s35;s17;s09;e014099;e115099;e013000;e223099;d2;");
        due("kind", x.student(0, 0), 3);
        due("figure", x.student(0, 1), 5);
        due("in", x.student(0, 2), 1);
        due("sent down", x.student(2, 2), 0);
        // ERRORS of TOPIC 1: 40 and 30 by the fellow, 51 by the don.
        due("marks of a fellow", x.student(0, 3), 40 + 2 + 10 + 30 + 10);
        due("marks of a don", x.student(1, 3), 50);
        due("marks of one sent down", x.student(2, 3), 30);
        due("rank", x.student(0, 4), 0);
        due("rank", x.student(1, 4), 1);
        due("rank", x.student(2, 4), 2);
        due("errors", x.student(0, 5), 5);
        due("errors", x.student(2, 5), 8);
        due("student(3, 0)", x.student(3, 0), -1);
        due("student(-1, 0)", x.student(-1, 0), -1);
        due("student(0, 6)", x.student(0, 6), -1);
        due("student(0, -1)", x.student(0, -1), -1);
        x = Check.of("s00;s00;s00;e100599;e200599;");
        due("rank of as many, a greater number", x.student(2, 4), 1);
        due("rank of as many, a lesser number", x.student(1, 4), 0);
        due("rank of the last", x.student(0, 4), 2);
    }

    private static void errors() {
        DegreeInMistakes x = Check.of("s10;s00;e034599;e135000;e135200;c100;");
        due("by whom", x.error(1, 0), 1);
        due("topic", x.error(1, 1), 3);
        due("size", x.error(1, 2), 50);
        due("citing", x.error(1, 3), 0);
        due("citing none", x.error(0, 3), 99);
        due("corrected", x.error(0, 4), 1);
        due("not corrected", x.error(1, 4), 0);
        due("cited", x.error(0, 5), 2);
        due("half of 45", x.error(0, 2), 22);
        due("novelty by a corrected one's size", x.error(0, 6), 28);
        due("novelty", x.error(1, 6), 2);
        due("a corrected one is marked nothing", x.error(0, 7), 0);
        due("marked", x.error(2, 7), 52);
        due("error(3, 0)", x.error(3, 0), -1);
        due("error(-1, 0)", x.error(-1, 0), -1);
        due("error(0, 8)", x.error(0, 8), -1);
        due("error(0, -1)", x.error(0, -1), -1);
    }

    private static void kindsAreMarked() {
        // SIZE 31, CITED twice, NOVELTY 7, FIGURE 8.
        int[] want = {31, 35, 15, 42, 22, 43, 14, 0};
        for (int kind = 0; kind < 8; kind++) {
            DegreeInMistakes x = Check.of("s" + kind + "8;s00;e013199;e112400;e120000;");
            due("what kind " + kind + " is marked", x.error(0, 7), want[kind]);
            due("marks of kind " + kind, x.student(0, 3), want[kind]);
        }
        DegreeInMistakes x = Check.of("s60;e013199;");
        due("novelty of the only one", x.error(0, 6), 99);
        due("a genius's only one", x.error(0, 7), 198);
    }

    private static void comes() {
        DegreeInMistakes x = new DegreeInMistakes();
        due("comes(-1)", x.comes(-1), -1);
        due("comes(8)", x.comes(8), -1);
        due("comes(0)", x.comes(0), -11);
        x.row(0, 0, 1);
        due("comes(0) of a row", x.comes(0), -12);
        x.keep(0, 1, 4, 7);
        for (int s = 0; s < 6; s++) {
            due("comes(0)", x.comes(0), s);
        }
        due("comes(0) once more", x.comes(0), -2);
        due("kind", x.student(5, 0), 4);
        due("figure", x.student(5, 1), 7);
        due("in", x.student(5, 2), 1);
        due("students", x.count(0), 6);
        x.keep(0, 0, 0, 0);
        due("nothing held ahead of no room", x.comes(0), -11);
    }

    private static void errs() {
        DegreeInMistakes x = Check.of("s00;s00;d1;");
        due("errs(2, ..)", x.errs(2, 0, 0, 99), -1);
        due("errs(-1, ..)", x.errs(-1, 0, 0, 99), -1);
        due("topic -1", x.errs(0, -1, 0, 99), -1);
        due("topic 6", x.errs(0, 6, 0, 99), -1);
        due("size -1", x.errs(0, 0, -1, 99), -1);
        due("size 100", x.errs(0, 0, 100, 99), -1);
        due("citing 0", x.errs(0, 0, 0, 0), -1);
        due("citing -1", x.errs(0, 0, 0, -1), -1);
        due("citing 100", x.errs(0, 0, 0, 100), -1);
        due("sent down, and topic 6", x.errs(1, 6, 0, 99), -1);
        due("sent down", x.errs(1, 0, 0, 99), -3);
        for (int e = 0; e < 12; e++) {
            due("errs", x.errs(0, e % 6, 99 - e, e == 0 ? 99 : e - 1), e);
        }
        due("citing 12", x.errs(0, 0, 0, 12), -1);
        due("sent down ahead of no room", x.errs(1, 0, 0, 99), -3);
        due("no room", x.errs(0, 0, 0, 99), -2);
        due("errors", x.count(1), 12);
        due("citing", x.error(11, 3), 10);
        due("size", x.error(11, 2), 88);
        due("topic", x.error(11, 1), 5);
        due("by whom", x.error(11, 0), 0);
    }

    private static void corrects() {
        DegreeInMistakes x = Check.of("s00;s00;s00;e000799;e001199;e100199;");
        due("corrects(3, 0)", x.corrects(3, 0), -1);
        due("corrects(-1, 0)", x.corrects(-1, 0), -1);
        due("corrects(0, 3)", x.corrects(0, 3), -1);
        due("corrects(0, -1)", x.corrects(0, -1), -1);
        due("his own", x.corrects(0, 1), -3);
        due("corrects(1, 0)", x.corrects(1, 0), 3);
        due("corrected", x.count(4), 1);
        due("in", x.count(3), 5);
        due("sent down", x.corrects(1, 1), -3);
        due("corrected already", x.corrects(2, 0), -3);
        due("no such one, by one sent down", x.corrects(1, 3), -1);
        due("corrects(2, 1)", x.corrects(2, 1), 5);
        due("size 1 by 2", x.corrects(0, 2), 0);
        due("nobody is in", x.count(3), 0);
        due("all are corrected", x.count(4), 7);
    }

    private static void sends() {
        DegreeInMistakes x = Check.of("s00;s00;");
        due("sends(2)", x.sends(2), -1);
        due("sends(-1)", x.sends(-1), -1);
        due("sends(1)", x.sends(1), 0);
        due("in", x.count(3), 1);
        due("sends(1)", x.sends(1), 1);
        due("in", x.count(3), 3);
    }

    private static void weeks() {
        DegreeInMistakes x = Check.of("s00;s30;s00;e001099;e119099;e202099;e203099;c001;d2;");
        due("weeks(0)", x.weeks(0), -1);
        due("weeks(61)", x.weeks(61), -1);
        due("weeks(-1)", x.weeks(-1), -1);
        // Who corrected is sent down: only the corrected one's maker is in, so nothing grows.
        due("weeks(5)", x.weeks(5), 10 + 20 + 30);
        due("week", x.count(2), 5);
        x.sends(0);
        x.sends(2);
        due("weeks(60)", x.weeks(60), 70 + 80 + 90);
        due("a corrected one stays", x.error(1, 2), 45);
        due("weeks(60)", x.weeks(60), 99 * 3);
        for (int i = 0; i < 14; i++) {
            x.weeks(60);
        }
        due("week", x.count(2), 965);
        due("weeks(35)", x.weeks(35), -3);
        due("week", x.count(2), 965);
        due("weeks(34)", x.weeks(34), 297);
        due("week", x.count(2), 999);
        due("weeks(1)", x.weeks(1), -3);
        due("weeks(0) ahead of it", x.weeks(0), -1);
    }

    private static void kindsRipen() {
        // FIGURE 8; behind one WEEK (odd), two, three.
        int[][] want = {{1, 2, 3}, {2, 4, 6}, {1, 1, 2}, {4, 8, 12}, {3, 5, 8}, {3, 6, 9}, {2, 4, 6}, {0, 0, 0}};
        for (int kind = 0; kind < 8; kind++) {
            DegreeInMistakes x = Check.of("s" + kind + "8;e000099;");
            for (int n = 0; n < 3; n++) {
                x.weeks(1);
                due("size by kind " + kind, x.error(0, 2), want[kind][n]);
            }
        }
        int[] byFigure = {0, 0, 0, 1, 1, 1, 2, 2, 2, 3};
        for (int figure = 0; figure < 10; figure++) {
            DegreeInMistakes x = Check.of("s4" + figure + ";e000099;w02;");
            due("size by a wit of figure " + figure, x.error(0, 2), 1 + 2 * byFigure[figure]);
        }
    }
}
