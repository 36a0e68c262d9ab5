/** What README.md shows of the calls, in its order, on one object. */
public final class ReadmeTest {
    private static final Check CHECK = new Check("ReadmeTest");

    public static void main(String[] args) {
        DegreeInMistakes x = new DegreeInMistakes();
        firstSteps(x);
        texts(x);
        CHECK.end();
    }

    private static void firstSteps(DegreeInMistakes x) {
        CHECK.due("keep(0, 1, 3, 5)", x.keep(0, 1, 3, 5), 0);
        CHECK.due("comes(0)", x.comes(0), 0);
        CHECK.due("errs(0, 2, 40, 99)", x.errs(0, 2, 40, 99), 0);
        CHECK.due("weeks(3)", x.weeks(3), 151);
        CHECK.due("next(0)", x.next(0), 99);
        CHECK.due("errs(0, 6, 40, 99)", x.errs(0, 6, 40, 99), -1);
    }

    private static void texts(DegreeInMistakes x) {
        Check.write(x, 1, "s49;e126000;w02;c100;");
        CHECK.due("college(1)", x.college(1), 4);
        CHECK.due("error(0, 4)", x.error(0, 4), 1);
        CHECK.due("error(0, 2)", x.error(0, 2), 30);
        CHECK.due("student(1, 2)", x.student(1, 2), 0);
        CHECK.due("worth(0, 0)", x.worth(0, 0), 3);
        CHECK.due("worth(0, 1)", x.worth(0, 1), 2);
        Check.write(x, 1, "s49;x");
        CHECK.due("college(1) of a wrong byte", x.college(1), -1004);
        Check.write(x, 1, "w01;d9;");
        CHECK.due("college(1) of no such student", x.college(1), -2004);
        CHECK.due("count(2)", x.count(2), 5);
    }
}
