/** Promises 15 to 18: next, farthest, cite, correct. */
public final class NextErrorTest {
    private static final Check CHECK = new Check("NextErrorTest");

    public static void main(String[] args) {
        next();
        farthest();
        cite();
        correct();
        CHECK.end();
    }

    private static void due(String call, long got, long want) {
        CHECK.due(call, got, want);
    }

    private static void next() {
        DegreeInMistakes x = Check.of("s00;s40;s60;s70;s30;");
        due("next of a student", x.next(0), 99);
        due("next of a wit", x.next(1), 98);
        due("next of a genius", x.next(2), 0);
        due("next of a proctor", x.next(3), 0);
        due("next(5)", x.next(5), -1);
        due("next(-1)", x.next(-1), -1);
        x.errs(0, 0, 99, 99);
        due("a fellow goes to a topic without errors", x.next(4), 199);
        for (int topic = 1; topic < 6; topic++) {
            x.errs(0, topic, topic == 4 ? 60 : 99, 99);
        }
        due("a genius goes far from the only one", x.next(2), 0);
        // TOPIC 4: SIZE 99 has NOVELTY 39; elsewhere SIZE s has 99 - s: 99 in all.
        due("a fellow adds size and novelty", x.next(4), 499);
        x.sends(0);
        due("sent down", x.next(0), -4);

        x = Check.of("s60;e004099;e015099;e025099;e035099;e045099;");
        due("a genius leaves his own their novelty", x.next(0), 500);
        x.errs(0, 5, 0, 99);
        // Far from one of his own takes its NOVELTY of 99 down to what the new one has.
        due("a genius among his own", x.next(0), 599);
        x = Check.of("s60;s00;e005099;e115099;e125099;e135099;e145099;e155099;");
        due("near his own he would lose novelty", x.next(0), 100);
        x = Check.of("s00;", "e000099;e000099;e000099;e000099;e000099;e000099;e000099;e000099;e000099;e000099;e000099;");
        due("room for one", x.next(0), 99);
        x.errs(0, 0, 0, 99);
        due("no room", x.next(0), -4);
        due("no such one ahead of no room", x.next(1), -1);
        due("errors", x.count(1), 12);
    }

    private static void farthest() {
        DegreeInMistakes x = Check.of("s00;s00;e002099;e006099;e015099;e020099;e029999;c102;");
        due("size between", x.farthest(0, 0), 99);
        due("how far", x.farthest(0, 1), 39);
        due("corrected: 25", x.farthest(1, 0), 99);
        due("how far from 25", x.farthest(1, 1), 74);
        due("the least of several", x.farthest(2, 0), 49);
        due("how far", x.farthest(2, 1), 49);
        due("none", x.farthest(5, 0), 0);
        due("how far of none", x.farthest(5, 1), 99);
        due("farthest(-1, 0)", x.farthest(-1, 0), -1);
        due("farthest(6, 0)", x.farthest(6, 0), -1);
        due("farthest(0, 2)", x.farthest(0, 2), -1);
        due("farthest(0, -1)", x.farthest(0, -1), -1);
    }

    private static void cite() {
        DegreeInMistakes x = Check.of("s00;s10;s00;e001099;e112099;e122099;");
        due("a don's first one", x.cite(0, 1), 1);
        due("to a student it's all one", x.cite(0, 2), 0);
        due("cite(0, 0)", x.cite(0, 0), -1);
        due("cite(3, 0)", x.cite(3, 0), -1);
        due("cite(0, 3)", x.cite(0, 3), -1);
        due("cite(-1, 0)", x.cite(-1, 0), -1);
        due("cite(0, -1)", x.cite(0, -1), -1);
        x.corrects(2, 1);
        due("citing a corrected one gives nothing", x.cite(0, 1), 2);
        due("sent down", x.cite(2, 0), -3);
        due("for one sent down", x.cite(0, 2), 0);
        due("one twice ahead of sent down", x.cite(2, 2), -1);
        due("errors", x.count(1), 3);
        due("cited", x.error(2, 5), 0);
        x = Check.of("s00;s10;d1;");
        due("no errors", x.cite(0, 1), -4);
        due("no errors, sent down", x.cite(1, 0), -3);
        due("no errors, one twice", x.cite(0, 0), -1);
        x = Check.of("s00;s10;", "e000099;e000099;e000099;e000099;e000099;e000099;e000099;e000099;e000099;e000099;e000099;");
        due("room", x.cite(0, 1), 0);
        x.errs(1, 0, 0, 99);
        due("no room", x.cite(0, 1), -4);
    }

    private static void correct() {
        DegreeInMistakes x = Check.of("s00;s00;s00;s00;e006099;e004099;e109099;e203099;");
        // MARKS 100, 90, 30, 0.
        due("correct(2, 1)", x.correct(2, 1), 0);
        due("correct(3, 2)", x.correct(3, 2), 2);
        due("nothing helps the first", x.correct(1, 0), -4);
        due("he can't correct his own", x.correct(0, 1), -4);
        due("correct(3, 1)", x.correct(3, 1), 0);
        due("correct(0, 0)", x.correct(0, 0), -1);
        due("correct(4, 0)", x.correct(4, 0), -1);
        due("correct(0, 4)", x.correct(0, 4), -1);
        due("correct(-1, 0)", x.correct(-1, 0), -1);
        due("correct(0, -1)", x.correct(0, -1), -1);
        x.sends(2);
        due("sent down", x.correct(2, 1), -4);
        due("sent down, and twice", x.correct(2, 2), -1);
        due("for one sent down", x.correct(3, 2), 2);
        due("corrected", x.count(4), 0);
        x = Check.of("s00;s00;s00;s00;e005099;e105099;e204099;");
        due("the least of several", x.correct(3, 2), 0);
        x.corrects(3, 0);
        x.sends(3);
        due("not a corrected one", x.correct(3, 2), 1);
        // One of SIZE 0, CITED, is worth a correction, too.
        x = Check.of("s00;s10;s00;e100099;e001000;e200199;e000199;");
        due("a don's of size 0", x.correct(0, 2), 0);
        // By its half SIZE a corrected one gives NOVELTY to the genius near it.
        x = Check.of("s60;s00;s00;e005099;e105099;e219999;");
        due("novelty by a correction", x.correct(2, 0), 1);
    }
}
