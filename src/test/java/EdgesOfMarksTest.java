/** Promises 10 to 22 at their edges: weeks on, degrees, the next error, nets of citing. */
public final class EdgesOfMarksTest {
    private static final Check CHECK = new Check("EdgesOfMarksTest");

    public static void main(String[] args) {
        ranks();
        noWeeksOn();
        sixtyWeeksOn();
        onAbove999();
        firstThen();
        firstWhen();
        degreeByWeeks();
        degreeByMarks();
        nextOfSeveral();
        nextWithoutRoom();
        nextOfOneSentDown();
        farthestOfNone();
        farthestOfSeveral();
        farthestOfAll();
        citeOfSeveral();
        citeWithoutRoom();
        correctOfSeveral();
        correctOnlyToLess();
        correctWhatMayBe();
        citedInTheEnd();
        worthAtItsEdges();
        netsOfSeveral();
        netsOfTwelve();
        topicsAtTheirEdges();
        CHECK.end();
    }

    private static void due(String call, long got, long want) {
        CHECK.due(call, got, want);
    }

    /** An object on which so many of the STATEMENT have come. */
    private static DegreeInMistakes times(String students, int n, String error) {
        StringBuilder text = new StringBuilder();
        for (int i = 0; i < n; i++) {
            text.append(error);
        }
        return n == 0 ? Check.of(students) : Check.of(students, text.toString());
    }

    private static DegreeInMistakes atWeek999(String students, String errors) {
        DegreeInMistakes x = Check.of(students);
        for (int i = 0; i < 16; i++) {
            x.weeks(60);
        }
        x.weeks(39);
        Check.tell(x, errors);
        return x;
    }

    private static void ranks() {
        DegreeInMistakes x = Check.of("s00;s00;s00;s00;s00;s00;");
        for (int s = 0; s < 6; s++) {
            due("as many: nothing", x.student(s, 4), s);
        }
        x.errs(5, 0, 1, 99);
        due("more", x.student(5, 4), 0);
        for (int s = 0; s < 5; s++) {
            due("less than one", x.student(s, 4), s + 1);
        }
        x.sends(5);
        due("sent down, and first", x.student(5, 4), 0);
        due("behind one sent down", x.student(0, 4), 1);
    }

    private static void noWeeksOn() {
        DegreeInMistakes x = Check.of("s35;s20;e014299;e113000;");
        due("marksThen(0, 0)", x.marksThen(0, 0), x.student(0, 3));
        due("marksThen(1, 0)", x.marksThen(1, 0), x.student(1, 3));
        due("sizeThen(0, 0)", x.sizeThen(0, 0), 42);
        due("sizeThen(1, 0)", x.sizeThen(1, 0), 30);
        due("firstThen(0)", x.firstThen(0), 0);
        due("week", x.count(2), 0);
    }

    private static void sixtyWeeksOn() {
        DegreeInMistakes x = Check.of("s00;s20;s30;e013999;e113899;e213899;");
        due("39 and 60", x.sizeThen(0, 60), 99);
        due("39 and 59", x.sizeThen(0, 59), 98);
        due("a freshman's 38 and 30", x.sizeThen(1, 60), 68);
        due("a freshman's, 59", x.sizeThen(1, 59), 68);
        due("a freshman's, 58", x.sizeThen(1, 58), 67);
        due("a fellow's", x.sizeThen(2, 60), 99);
        due("a fellow's, 15", x.sizeThen(2, 15), 98);
        due("a fellow's, 16", x.sizeThen(2, 16), 99);
        due("marksThen(1, 60)", x.marksThen(1, 60), 34);
        due("week", x.count(2), 0);
        due("sizes", x.count(5), 39 + 38 + 38);
    }

    private static void onAbove999() {
        DegreeInMistakes x = atWeek999("s20;", "e000099;");
        due("no weeks go", x.weeks(1), -3);
        due("in mind 1: week 1000", x.sizeThen(0, 1), 0);
        due("in mind 60", x.sizeThen(0, 60), 30);
        due("degree(0, 15)", x.degree(0, 15), 60);
        due("degree(0, 16)", x.degree(0, 16), -4);
        Check.fill(x, 0, 1, 0, 0, 0, 0, 1);
        due("judge", x.judge(0), -4);
        Check.fill(x, 0, 1, 0, 0, 1, 1, 2);
        due("whatIs", x.whatIs(0, 0, 0), 1 << 2 | 1 << 4);
        due("terms", x.terms(1, 1, 0), (16838 % 100 + 2) / 2);
        due("week", x.count(2), 999);
    }

    private static void firstThen() {
        DegreeInMistakes x = new DegreeInMistakes();
        due("nobody", x.firstThen(0), -4);
        due("nobody, 60 weeks on", x.firstThen(60), -4);
        x = Check.of("s70;");
        due("one alone", x.firstThen(0), 0);
        due("one alone, 60 weeks on", x.firstThen(60), 0);
        x.sends(0);
        due("one alone, sent down", x.firstThen(60), 0);
        x = Check.of("s00;s10;e106099;");
        due("more", x.firstThen(0), 1);
        x.errs(0, 1, 60, 99);
        due("as many: the lesser", x.firstThen(0), 0);
        due("more, one week on", x.firstThen(1), 1);
    }

    private static void firstWhen() {
        DegreeInMistakes x = Check.of("s00;s00;e006099;e110199;");
        due("now", x.firstWhen(0), 0);
        due("both grow", x.firstWhen(1), -4);
        x.sends(0);
        due("more behind 60", x.firstWhen(1), 60);
        x = Check.of("s00;s00;e006199;e110199;d0;");
        due("more behind 61", x.firstWhen(1), -4);
        x = Check.of("s00;s00;e010199;e106199;d1;");
        due("as many, the lesser, behind 60", x.firstWhen(0), 60);
        x = Check.of("s00;s00;e010199;e106299;d1;");
        due("as many, the lesser, behind 61", x.firstWhen(0), -4);
        // 50 as ever; 41 and 2 a WEEK; 30 and 3 a WEEK.
        x = Check.of("s00;s10;s50;e005099;e114199;e223099;d0;");
        due("first for a time: the first of it", x.firstWhen(1), 5);
        due("and behind it", x.firstWhen(2), 12);
        due("week", x.count(2), 0);
    }

    private static void degreeByWeeks() {
        DegreeInMistakes x = Check.of("s00;e000599;");
        due("as many now", x.degree(0, 5), 0);
        due("less now", x.degree(0, 1), 0);
        due("one more", x.degree(0, 6), 1);
        due("behind 60", x.degree(0, 65), 60);
        due("behind 61", x.degree(0, 66), -4);
        x.sends(0);
        due("sent down: as many", x.degree(0, 5), 0);
        due("sent down: one more", x.degree(0, 6), -4);
        // NOVELTY is lost as the other's grows: first is told, though it is not so later.
        x = Check.of("s60;s30;e005099;e100099;d0;");
        due("a genius's marks now", x.degree(0, 100), 0);
        due("a genius's marks never", x.degree(0, 101), -4);
    }

    private static void degreeByMarks() {
        DegreeInMistakes x = times("s00;s70;", 11, "e009099;");
        due("990, and 9 more", x.degree(0, 999), 1);
        due("1", x.degree(0, 1), 0);
        due("no marks", x.degree(1, 1), -4);
        x = times("s60;", 0, "");
        for (int e = 0; e < 6; e++) {
            x.errs(0, e, 0, 99);
        }
        due("1188: 999", x.degree(0, 999), 0);
        x = Check.of("s00;", "e009999;e009999;e009999;e009999;e009999;e009999;e009999;e009999;e009999;e009999;e000799;");
        due("997 now: 999", x.degree(0, 999), 2);
        due("997 now: 998", x.degree(0, 998), 1);
        due("997 now: 997", x.degree(0, 997), 0);
    }

    private static void nextOfSeveral() {
        // MARKED nothing for any: TOPIC 0, SIZE 0.
        DegreeInMistakes x = Check.of("s70;s60;s20;");
        due("a proctor", x.next(0), 0);
        due("a genius without others: all 198", x.next(1), 0);
        due("a freshman: 98 as good as 99", x.next(2), 98);
        x = Check.of("s00;e059999;");
        due("the last topic, the last size, are no better", x.next(0), 99);
        // All but TOPIC 5 are taken at both ends.
        x = Check.of("s60;s70;", "e100099;e109999;e110099;e119999;e120099;e129999;e130099;e139999;e140099;e149999;");
        due("the last topic", x.next(0), 500);
    }

    private static void nextWithoutRoom() {
        DegreeInMistakes x = times("s00;s70;", 11, "e100099;");
        due("room for one", x.next(0), 99);
        x.errs(1, 0, 0, 99);
        due("no room", x.next(0), -4);
        due("no room, either", x.next(1), -4);
        due("errors", x.count(1), 12);
    }

    private static void nextOfOneSentDown() {
        DegreeInMistakes x = Check.of("s00;s00;d0;");
        due("sent down", x.next(0), -4);
        due("the other", x.next(1), 99);
        x.sends(0);
        due("in again", x.next(0), 99);
    }

    private static void farthestOfNone() {
        DegreeInMistakes x = new DegreeInMistakes();
        for (int topic = 0; topic < 6; topic++) {
            due("size 0", x.farthest(topic, 0), 0);
            due("how far: 99", x.farthest(topic, 1), 99);
        }
        x = Check.of("s00;e040099;");
        due("of the topic", x.farthest(4, 0), 99);
        due("of another", x.farthest(5, 0), 0);
        due("of another", x.farthest(3, 1), 99);
    }

    private static void farthestOfSeveral() {
        int[] sizes = {0, 1, 49, 50, 98, 99};
        int[] farthest = {99, 99, 99, 0, 0, 0};
        int[] far = {99, 98, 50, 50, 98, 99};
        for (int i = 0; i < sizes.length; i++) {
            DegreeInMistakes x = Check.of("s00;");
            x.errs(0, 5, sizes[i], 99);
            due("from " + sizes[i], x.farthest(5, 0), farthest[i]);
            due("how far from " + sizes[i], x.farthest(5, 1), far[i]);
        }
        DegreeInMistakes x = Check.of("s00;e000099;e009999;");
        due("49 as far as 50", x.farthest(0, 0), 49);
        due("how far", x.farthest(0, 1), 49);
        x = Check.of("s00;e002599;e007599;");
        due("0, 50 and 99: one the least", x.farthest(0, 0), 0);
        due("how far", x.farthest(0, 1), 25);
        x = Check.of("s00;s00;e005099;c100;");
        due("a corrected one counts", x.farthest(0, 0), 99);
        due("how far from 25", x.farthest(0, 1), 74);
    }

    private static void farthestOfAll() {
        DegreeInMistakes x = Check.of("s00;", "e000099;e000999;e001899;e002799;e003699;e004599;e005499;e006399;e007299;e008199;e009099;e009999;");
        due("between 0 and 9", x.farthest(0, 0), 4);
        due("how far", x.farthest(0, 1), 4);
    }

    private static void citeOfSeveral() {
        DegreeInMistakes x = Check.of("s00;s00;s10;e000099;e100099;e203099;e204099;");
        due("a student gains by none: the least", x.cite(0, 1), 0);
        due("a don by his own: the least of his", x.cite(0, 2), 2);
        due("by one in for one sent down", x.sends(2), 0);
        due("for one sent down", x.cite(0, 2), 2);
        due("errors", x.count(1), 4);
    }

    private static void citeWithoutRoom() {
        DegreeInMistakes x = Check.of("s00;s10;");
        due("no errors", x.cite(0, 1), -4);
        x.errs(1, 0, 0, 99);
        due("one", x.cite(0, 1), 0);
        for (int e = 1; e < 11; e++) {
            x.errs(0, 0, 0, 99);
        }
        due("room for one", x.cite(0, 1), 0);
        x.errs(0, 0, 0, 99);
        due("no room", x.cite(0, 1), -4);
    }

    private static void correctOfSeveral() {
        DegreeInMistakes x = Check.of("s00;s00;s00;s00;e004099;e105099;e206099;");
        due("who has nothing stays behind others with nothing", x.correct(1, 3), -4);
        x.errs(3, 0, 1, 99);
        due("with 1 he is ahead of any of them: the least", x.correct(1, 3), 0);
        due("not his own", x.correct(0, 3), 1);
        due("the only one", x.correct(2, 1), -4);
        due("the one ahead of him", x.correct(3, 1), 2);
        due("one of two", x.correct(3, 0), 1);
        due("corrected", x.count(4), 0);
        due("in", x.count(3), 15);
    }

    private static void correctOnlyToLess() {
        DegreeInMistakes x = Check.of("s00;s00;s00;e005099;e104099;e203099;");
        due("of rank 0 already", x.correct(1, 0), -4);
        x = Check.of("s00;s00;s00;e005099;e005099;e104099;");
        due("of as much rank with one less", x.correct(2, 1), -4);
        x.errs(2, 0, 45, 99);
        due("one who has less", x.correct(0, 1), 3);
        due("50 of 100 stay, more than 45", x.correct(1, 2), -4);
    }

    private static void correctWhatMayBe() {
        DegreeInMistakes x = Check.of("s00;s00;s00;e005099;e104099;");
        due("an error", x.correct(2, 1), 0);
        x.sends(2);
        due("by one sent down", x.correct(2, 1), -4);
        x.sends(2);
        x.corrects(2, 0);
        x.sends(2);
        due("corrected already", x.correct(2, 0), 1);
        x.corrects(2, 1);
        x.sends(2);
        due("all corrected", x.correct(2, 1), -4);
        x = Check.of("s00;s00;");
        due("no errors", x.correct(0, 1), -4);
    }

    private static void citedInTheEnd() {
        DegreeInMistakes x = Check.of("s00;e000099;");
        due("by none", x.cited(0, 0), 0);
        due("it counted", x.cited(0, 1), 1);
        for (int e = 1; e < 12; e++) {
            x.errs(0, 0, 0, e - 1);
        }
        for (int e = 0; e < 12; e++) {
            due("cited in the end " + e, x.cited(e, 0), 11 - e);
            due("depth " + e, x.cited(e, 1), e + 1);
        }
        x = times("s00;", 1, "e000099;");
        for (int e = 1; e < 12; e++) {
            x.errs(0, 0, 0, 0);
        }
        due("by eleven straight", x.cited(0, 0), 11);
        due("depth of the last", x.cited(11, 1), 2);
    }

    private static void worthAtItsEdges() {
        DegreeInMistakes x = times("s00;", 12, "e000099;");
        for (int e = 0; e < 12; e++) {
            due("1", x.worth(e, 0), 1);
            due("by 1", x.worth(e, 1), 1);
        }
        x = times("s00;", 1, "e000099;");
        for (int e = 1; e < 12; e++) {
            x.errs(0, 0, 0, 0);
            due("1 and halves", x.worth(0, 0), e % 2 == 0 ? 1 + e / 2 : 2 + e);
            due("in least terms", x.worth(0, 1), e % 2 == 0 ? 1 : 2);
        }
        x = times("s00;", 1, "e000099;");
        for (int e = 1; e < 12; e++) {
            x.errs(0, 0, 0, e - 1);
            due("a chain", x.worth(0, 0), (2 << e) - 1);
            due("by", x.worth(0, 1), 1 << e);
            due("its end", x.worth(e, 0), 1);
        }
        x = Check.of("s00;s00;e001099;e112000;c100;");
        due("a corrected one's", x.worth(0, 0), 3);
        due("by", x.worth(0, 1), 2);
    }

    private static void netsOfSeveral() {
        DegreeInMistakes x = Check.of("s00;e000099;e000099;e000000;e000001;");
        due("dearest, the least of several", x.nets(0), 0);
        due("longest", x.nets(1), 2);
        due("ends at the least of several", x.nets(2), 2);
        due("none is alone", x.nets(3), 0);
        x = Check.of("s00;e000099;e000099;e000001;e000099;e000003;");
        due("dearest, the least of two", x.nets(0), 1);
        due("alone", x.nets(3), 1);
        // Three that cite one are dearer than a chain of four: 1 and 3 halves, 1 and 1 half and 1 fourth and 1 eighth.
        x = Check.of("s00;e000099;e000000;e000001;e000002;e000099;e000004;e000004;e000004;");
        due("dearest", x.nets(0), 4);
        due("longest", x.nets(1), 4);
        due("ends at", x.nets(2), 3);
    }

    private static void netsOfTwelve() {
        DegreeInMistakes x = times("s00;", 12, "e000099;");
        due("dearest", x.nets(0), 0);
        due("longest", x.nets(1), 1);
        due("ends at", x.nets(2), 0);
        due("all alone", x.nets(3), 4095);
        x = times("s00;", 1, "e000099;");
        due("one: dearest", x.nets(0), 0);
        due("one: longest", x.nets(1), 1);
        due("one: alone", x.nets(3), 1);
        for (int e = 1; e < 12; e++) {
            x.errs(0, 0, 0, e - 1);
        }
        due("dearest", x.nets(0), 0);
        due("longest", x.nets(1), 12);
        due("ends at", x.nets(2), 11);
        due("none alone", x.nets(3), 0);
    }

    private static void topicsAtTheirEdges() {
        DegreeInMistakes x = new DegreeInMistakes();
        due("no topics", x.topics(0), 0);
        due("none with most", x.topics(1), -4);
        x = Check.of("s00;e050099;");
        due("the last", x.topics(0), 32);
        due("with most", x.topics(1), 5);
        x.errs(0, 0, 0, 99);
        due("the first, too", x.topics(0), 33);
        due("as many: the least", x.topics(1), 0);
        for (int e = 2; e < 12; e++) {
            x.errs(0, 5, 0, 99);
        }
        due("eleven of one", x.topics(1), 5);
        x = Check.of("s00;s00;s00;e040099;e030099;e030099;c101;c202;");
        due("corrected ones count", x.topics(1), 3);
    }
}
