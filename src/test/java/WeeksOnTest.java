/** Promises 10 to 14: marksThen, sizeThen, firstThen, firstWhen, degree. */
public final class WeeksOnTest {
    private static final Check CHECK = new Check("WeeksOnTest");

    public static void main(String[] args) {
        then();
        first();
        degree();
        nothingHasChanged();
        behindTheLastWeek();
        CHECK.end();
    }

    private static void due(String call, long got, long want) {
        CHECK.due(call, got, want);
    }

    private static DegreeInMistakes fellowAndStudent() {
        // The fellow's grows by 4 and has NOVELTY 99 with it, the student's by 1.
        return Check.of("s00;s10;s30;e005099;e111099;e220099;");
    }

    private static void then() {
        DegreeInMistakes x = fellowAndStudent();
        due("marksThen(0, 0)", x.marksThen(0, 0), 50);
        due("marksThen(0, 7)", x.marksThen(0, 7), 57);
        due("marksThen(2, 7)", x.marksThen(2, 7), 28 + 99);
        due("marksThen(2, 60)", x.marksThen(2, 60), 99 + 99);
        due("marksThen(3, 0)", x.marksThen(3, 0), -1);
        due("marksThen(-1, 0)", x.marksThen(-1, 0), -1);
        due("marksThen(0, -1)", x.marksThen(0, -1), -1);
        due("marksThen(0, 61)", x.marksThen(0, 61), -1);
        due("sizeThen(1, 0)", x.sizeThen(1, 0), 10);
        due("sizeThen(1, 10)", x.sizeThen(1, 10), 30);
        due("sizeThen(1, 60)", x.sizeThen(1, 60), 99);
        due("sizeThen(3, 0)", x.sizeThen(3, 0), -1);
        due("sizeThen(-1, 0)", x.sizeThen(-1, 0), -1);
        due("sizeThen(0, 61)", x.sizeThen(0, 61), -1);
        due("sizeThen(0, -1)", x.sizeThen(0, -1), -1);
        x.sends(1);
        due("sizeThen of one sent down", x.sizeThen(1, 10), 10);
        x = Check.of("s20;e000099;w01;");
        due("a freshman in an even week", x.sizeThen(0, 1), 1);
        due("a freshman in an odd week", x.sizeThen(0, 2), 2);
    }

    private static void first() {
        DegreeInMistakes x = Check.of("s00;s10;s00;e005099;e112099;e220099;");
        due("firstThen(0)", x.firstThen(0), 0);
        due("as many: the lesser", x.firstThen(30), 0);
        due("firstThen(31)", x.firstThen(31), 1);
        due("firstThen(60)", x.firstThen(60), 0);
        due("firstThen(-1)", x.firstThen(-1), -1);
        due("firstThen(61)", x.firstThen(61), -1);
        due("firstWhen(0)", x.firstWhen(0), 0);
        due("firstWhen(1)", x.firstWhen(1), 31);
        due("firstWhen(2)", x.firstWhen(2), -4);
        due("firstWhen(3)", x.firstWhen(3), -1);
        due("firstWhen(-1)", x.firstWhen(-1), -1);
        x.sends(0);
        due("one sent down may be first", x.firstThen(0), 0);
        due("firstWhen(1) of one that stays", x.firstWhen(1), 16);
        x = Check.of("s70;s00;e000099;");
        due("as many, nothing", x.firstWhen(1), -4);
        // 60 WEEKS on are the last that are looked at.
        x = Check.of("s00;s00;e006099;e100199;d0;");
        due("first in the last week", x.firstWhen(1), 60);
        x = Check.of("s00;s00;e006199;e100199;d0;");
        due("one week too late", x.firstWhen(1), -4);
        x = new DegreeInMistakes();
        due("firstThen of nobody", x.firstThen(0), -4);
        due("firstThen(61) of nobody", x.firstThen(61), -1);
    }

    private static void degree() {
        DegreeInMistakes x = fellowAndStudent();
        due("degree(0, 50)", x.degree(0, 50), 0);
        due("degree(0, 51)", x.degree(0, 51), 1);
        due("degree(0, 99)", x.degree(0, 99), 49);
        due("degree(0, 100)", x.degree(0, 100), -4);
        due("degree(2, 102)", x.degree(2, 102), 1);
        due("degree(2, 999)", x.degree(2, 999), -4);
        due("degree(0, 0)", x.degree(0, 0), -1);
        due("degree(0, 1000)", x.degree(0, 1000), -1);
        due("degree(3, 1)", x.degree(3, 1), -1);
        due("degree(-1, 1)", x.degree(-1, 1), -1);
        x = Check.of("s00;e000099;");
        due("degree in the last week", x.degree(0, 60), 60);
        due("degree one week too late", x.degree(0, 61), -4);
    }

    private static void nothingHasChanged() {
        DegreeInMistakes x = fellowAndStudent();
        x.marksThen(0, 60);
        x.sizeThen(0, 60);
        x.firstThen(60);
        x.firstWhen(1);
        x.degree(0, 999);
        due("week", x.count(2), 0);
        due("sizes", x.count(5), 60);
    }

    private static void behindTheLastWeek() {
        DegreeInMistakes x = Check.of("s20;e000099;d0;");
        for (int i = 0; i < 16; i++) {
            x.weeks(60);
        }
        x.weeks(39);
        x.sends(0);
        due("week", x.count(2), 999);
        due("in mind, week 1000", x.sizeThen(0, 1), 0);
        due("in mind, week 1001", x.sizeThen(0, 2), 1);
    }
}
