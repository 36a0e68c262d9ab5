/** Promises 23 to 25: votes, slips, examiners. */
public final class VotesTest {
    private static final Check CHECK = new Check("VotesTest");

    public static void main(String[] args) {
        votes();
        slips();
        examiners();
        CHECK.end();
    }

    private static void due(String call, long got, long want) {
        CHECK.due(call, got, want);
    }

    private static void votes() {
        DegreeInMistakes x = new DegreeInMistakes();
        due("votes(-1) of nobody", x.votes(-1), -4);
        due("votes(0) of nobody", x.votes(0), -1);
        x = Check.of("s00;s00;s00;s00;e102099;e202099;");
        due("votes(0)", x.votes(0), 0);
        due("votes(1): the least of as many", x.votes(1), 3);
        due("votes(2): by the first one", x.votes(2), 1);
        due("elected", x.votes(-1), 1);
        due("votes(4)", x.votes(4), -1);
        due("votes(-2)", x.votes(-2), -1);
        x.sends(1);
        due("one sent down gets none", x.votes(1), 0);
        due("votes(2)", x.votes(2), 2);
        due("votes(0): the least but himself", x.votes(0), 1);
        due("elected", x.votes(-1), 2);
        x.sends(2);
        due("two: each the other one", x.votes(3), 1);
        due("elected: the least", x.votes(-1), 0);
        x.sends(0);
        due("alone: no votes", x.votes(3), 0);
        due("alone: elected with none", x.votes(-1), 3);
        x.sends(3);
        due("nobody is in", x.votes(-1), -4);
        due("votes(3)", x.votes(3), 0);
    }

    private static void slips() {
        DegreeInMistakes x = Check.of("s00;s00;s00;s00;s00;e203099;e301099;");
        // VOTES: 2 has four, 3 has one.
        due("slips(2)", x.slips(2), 0);
        due("slips(3)", x.slips(3), 2);
        due("slips(0), ahead of 2: as many is enough", x.slips(0), 2);
        due("slips(1)", x.slips(1), 2);
        due("slips(4), behind 2", x.slips(4), 3);
        due("slips(5)", x.slips(5), -1);
        due("slips(-1)", x.slips(-1), -1);
        x.sends(4);
        due("not in", x.slips(4), -4);
        x = Check.of("s00;");
        due("alone", x.slips(0), 0);
        x = Check.of("s00;s00;e100999;");
        due("two, the one elected by number", x.slips(0), 0);
        due("two, the other", x.slips(1), 1);
    }

    private static void examiners() {
        DegreeInMistakes x = new DegreeInMistakes();
        due("examiners(-1) of none", x.examiners(-1), 0);
        due("examiners(0) of none", x.examiners(0), -1);
        due("examiners(-2)", x.examiners(-2), -1);
        x = Check.of("s00;s00;s00;e000099;e000099;e200099;");
        due("all three", x.examiners(-1), 3);
        due("examiners(0): not his own, not himself", x.examiners(0), 1);
        due("examiners(1)", x.examiners(1), 2);
        due("examiners(2)", x.examiners(2), 0);
        due("examiners(3)", x.examiners(3), -1);
        x = Check.of("s00;s00;e000099;e000099;e000099;e100099;");
        due("two of four", x.examiners(-1), 2);
        due("the first of his", x.examiners(0), 1);
        due("nobody for the second", x.examiners(1), -4);
        due("nobody for the third", x.examiners(2), -4);
        due("the other one's", x.examiners(3), 0);
        x.corrects(1, 0);
        due("one is in and has but one to mark", x.examiners(-1), 1);
        due("a corrected one", x.examiners(0), -4);
        due("nobody", x.examiners(1), -4);
        due("the other one's", x.examiners(3), 0);
        x.sends(0);
        due("nobody is in", x.examiners(-1), 0);
        due("nobody", x.examiners(3), -4);
        x = Check.of("s00;s00;s00;s00;s00;s00;");
        x.image();
        for (int e = 0; e < 12; e++) {
            x.errs(e / 2, 0, 0, 99);
        }
        due("six of twelve", x.examiners(-1), 6);
        due("the first", x.examiners(0), 1);
        due("the third: not his own", x.examiners(2), 0);
        due("the sixth", x.examiners(5), 5);
        due("nobody is left for the seventh", x.examiners(6), -4);
        due("nobody is left for the twelfth", x.examiners(11), -4);
        x.restore();
        for (int e = 0; e < 2; e++) {
            x.errs(5, 0, 0, 99);
            due("fewer behind a restored image", x.examiners(-1), e + 1);
        }
        // The least for the first one would leave the second without: it must give way.
        x = Check.of("s00;s00;s00;e200099;e100099;e100099;d2;");
        due("give way", x.examiners(-1), 2);
        due("not 0", x.examiners(0), 1);
        due("0", x.examiners(1), 0);
        due("nobody", x.examiners(2), -4);
    }
}
