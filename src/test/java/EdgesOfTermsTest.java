/** The Terms of the document, sentence by sentence, at their edges: how many, how large, how far, cut, the last. */
public final class EdgesOfTermsTest {
    private static final Check CHECK = new Check("EdgesOfTermsTest");

    public static void main(String[] args) {
        sixStudentsAtMost();
        figuresFrom0To9();
        inAtFirst();
        twelveErrorsAtMost();
        topicsAndSizes();
        citesALesserOneOrNone();
        weeksFrom0To999();
        noneOfTheWeeksGoes();
        ripens();
        freshmenByWeeks();
        whatDoesNotRipen();
        ninetyNineAtMost();
        marked();
        correctedOnesAreMarkedNothing();
        citedStraight();
        novelty();
        marksOfOne();
        halfCut();
        whoCorrectsIsSentDown();
        CHECK.end();
    }

    private static void due(String call, long got, long want) {
        CHECK.due(call, got, want);
    }

    private static void sixStudentsAtMost() {
        DegreeInMistakes x = new DegreeInMistakes();
        x.keep(0, 1, 0, 0);
        for (int s = 0; s < 6; s++) {
            due("student " + s + " ahead of coming", x.student(s, 0), -1);
            due("comes", x.comes(0), s);
            due("students", x.count(0), s + 1);
        }
        due("a seventh", x.comes(0), -2);
        due("students", x.count(0), 6);
        due("student 6", x.student(6, 0), -1);
    }

    private static void figuresFrom0To9() {
        DegreeInMistakes x = new DegreeInMistakes();
        x.keep(0, 1, 7, 0);
        x.comes(0);
        x.keep(0, 1, 0, 9);
        x.comes(0);
        due("kind 7", x.student(0, 0), 7);
        due("figure 0", x.student(0, 1), 0);
        due("kind 0", x.student(1, 0), 0);
        due("figure 9", x.student(1, 1), 9);
    }

    private static void inAtFirst() {
        DegreeInMistakes x = Check.of("s00;");
        due("in at first", x.student(0, 2), 1);
        x.sends(0);
        Check.tell(x, "s70;");
        due("in at first, though another is sent down", x.student(1, 2), 1);
        due("bits", x.count(3), 2);
    }

    private static void twelveErrorsAtMost() {
        DegreeInMistakes x = Check.of("s00;");
        for (int e = 0; e < 12; e++) {
            due("error " + e + " ahead of being made", x.error(e, 0), -1);
            due("errs", x.errs(0, 0, 0, 99), e);
            due("not corrected at first", x.error(e, 4), 0);
        }
        due("a thirteenth", x.errs(0, 0, 0, 99), -2);
        due("errors", x.count(1), 12);
        due("error 12", x.error(12, 0), -1);
        due("all are his", x.student(0, 5), 4095);
    }

    private static void topicsAndSizes() {
        DegreeInMistakes x = Check.of("s00;");
        due("topic 0, size 0", x.errs(0, 0, 0, 99), 0);
        due("topic 5, size 99", x.errs(0, 5, 99, 99), 1);
        due("topic 0", x.error(0, 1), 0);
        due("size 0", x.error(0, 2), 0);
        due("topic 5", x.error(1, 1), 5);
        due("size 99", x.error(1, 2), 99);
    }

    private static void citesALesserOneOrNone() {
        DegreeInMistakes x = Check.of("s00;");
        due("itself", x.errs(0, 0, 0, 0), -1);
        due("none", x.errs(0, 0, 0, 99), 0);
        due("the first", x.errs(0, 0, 0, 0), 1);
        due("itself", x.errs(0, 0, 0, 2), -1);
        for (int e = 2; e < 12; e++) {
            due("the one ahead", x.errs(0, 0, 0, e - 1), e);
        }
        due("told as none", x.error(0, 3), 99);
        due("told", x.error(11, 3), 10);
    }

    private static void weeksFrom0To999() {
        DegreeInMistakes x = new DegreeInMistakes();
        due("week 0", x.count(2), 0);
        for (int i = 1; i <= 16; i++) {
            due("weeks(60) of no errors", x.weeks(60), 0);
            due("week", x.count(2), 60 * i);
        }
        due("weeks(39)", x.weeks(39), 0);
        due("week 999", x.count(2), 999);
        due("one more", x.weeks(1), -3);
        due("week 999 still", x.count(2), 999);
    }

    private static void noneOfTheWeeksGoes() {
        DegreeInMistakes x = Check.of("s00;e000099;d0;");
        for (int i = 0; i < 16; i++) {
            x.weeks(60);
        }
        x.sends(0);
        due("960 and 40", x.weeks(40), -3);
        due("week", x.count(2), 960);
        due("size", x.error(0, 2), 0);
        due("960 and 39", x.weeks(39), 39);
        due("week", x.count(2), 999);
        due("size", x.error(0, 2), 39);
    }

    /** What each KIND RIPENS in WEEK 1 and in WEEK 2, by each FIGURE. */
    private static void ripens() {
        for (int figure = 0; figure < 10; figure++) {
            int cut = (figure - figure % 3) / 3;
            int[] odd = {1, 2, 1, 4, 1 + cut, 3, 2, 0};
            int[] even = {1, 2, 0, 4, cut, 3, 2, 0};
            for (int kind = 0; kind < 8; kind++) {
                DegreeInMistakes x = Check.of("s" + kind + figure + ";e000099;w01;");
                String one = " of kind " + kind + ", figure " + figure;
                due("week 1" + one, x.error(0, 2), odd[kind]);
                x.weeks(1);
                due("week 2" + one, x.error(0, 2), odd[kind] + even[kind]);
            }
        }
    }

    private static void freshmenByWeeks() {
        DegreeInMistakes x = Check.of("s20;e000099;");
        x.weeks(60);
        due("60 weeks", x.error(0, 2), 30);
        x.weeks(1);
        due("week 61", x.error(0, 2), 31);
        x.weeks(2);
        due("weeks 62 and 63", x.error(0, 2), 32);
        x.weeks(1);
        due("week 64", x.error(0, 2), 32);
    }

    private static void whatDoesNotRipen() {
        DegreeInMistakes x = Check.of("s00;s00;s00;e001099;e102099;e003099;c100;");
        x.weeks(1);
        due("corrected", x.error(0, 2), 5);
        due("of one sent down", x.error(1, 2), 20);
        due("of one in", x.error(2, 2), 31);
        x.sends(1);
        x.weeks(1);
        due("corrected, who did is in", x.error(0, 2), 5);
        due("of one in again", x.error(1, 2), 21);
    }

    private static void ninetyNineAtMost() {
        DegreeInMistakes x = Check.of("s30;e009499;e009599;e009699;e009899;e009999;w01;");
        due("94 and 4", x.error(0, 2), 98);
        for (int e = 1; e < 5; e++) {
            due("no more than 99", x.error(e, 2), 99);
        }
        x.weeks(60);
        for (int e = 0; e < 5; e++) {
            due("99 still", x.error(e, 2), 99);
        }
    }

    /** SIZES at their edges and one that is odd, FIGURES 0 and 9, NOVELTY 99 or 0, CITED or not. */
    private static void marked() {
        int[] sizes = {0, 1, 51, 98, 99};
        for (int size : sizes) {
            for (int figure = 0; figure < 10; figure += 9) {
                String told = "e00" + size / 10 + size % 10 + "99;";
                int half = size / 2;
                int[] far = {size, size, half, size + 99, half + 99, size + figure, 198, 0};
                int[] near = {size, size + 4, half, size + 4, half, size + 4 + figure, 0, 0};
                for (int kind = 0; kind < 8; kind++) {
                    DegreeInMistakes x = Check.of("s" + kind + figure + ";s70;" + told);
                    String one = " of kind " + kind + ", figure " + figure + ", size " + size;
                    due("novelty 99, not cited" + one, x.error(0, 7), far[kind]);
                    due("marks" + one, x.student(0, 3), far[kind]);
                    x.errs(1, 0, size, 0);
                    x.errs(1, 0, size, 0);
                    due("novelty 0, cited twice" + one, x.error(0, 7), near[kind]);
                }
            }
        }
    }

    private static void correctedOnesAreMarkedNothing() {
        for (int kind = 0; kind < 8; kind++) {
            DegreeInMistakes x = Check.of("s" + kind + "9;s00;e009999;e150000;c100;");
            due("a corrected one of kind " + kind, x.error(0, 7), 0);
            due("marks of kind " + kind, x.student(0, 3), 0);
            due("it is cited still", x.error(0, 5), 1);
        }
    }

    private static void citedStraight() {
        DegreeInMistakes x = Check.of("s10;e000099;e010000;e020001;e030002;");
        due("cited straight by one", x.error(0, 5), 1);
        due("the last", x.error(3, 5), 0);
        due("a don's marks by it", x.error(0, 7), 2);
        for (int e = 4; e < 12; e++) {
            x.errs(0, 0, 0, 0);
        }
        due("by nine", x.error(0, 5), 9);
        due("marks by nine", x.error(0, 7), 18);
    }

    private static void novelty() {
        DegreeInMistakes x = Check.of("s00;s00;e005099;");
        due("no others", x.error(0, 6), 99);
        x.errs(0, 1, 50, 99);
        due("none of its topic", x.error(0, 6), 99);
        x.errs(0, 0, 60, 99);
        due("one above", x.error(0, 6), 10);
        x.errs(1, 0, 45, 99);
        due("one below", x.error(0, 6), 5);
        due("the one above to the nearest", x.error(2, 6), 10);
        x.errs(1, 0, 60, 99);
        due("of the same size", x.error(2, 6), 0);
        x = Check.of("s00;e000099;e009999;");
        due("99 by one as far as may be", x.error(0, 6), 99);
        due("99 the other way", x.error(1, 6), 99);
        x = Check.of("s00;s00;e004099;e007099;c101;");
        due("by a corrected one's size", x.error(0, 6), 5);
        due("of a corrected one", x.error(1, 6), 5);
    }

    private static void marksOfOne() {
        DegreeInMistakes x = Check.of("s60;s00;");
        due("of no errors", x.student(0, 3), 0);
        for (int e = 0; e < 6; e++) {
            x.errs(0, e, 0, 99);
        }
        due("a genius's six", x.student(0, 3), 6 * 198);
        for (int e = 6; e < 12; e++) {
            x.errs(1, e - 6, 99, 99);
        }
        due("six of 99", x.student(1, 3), 594);
        due("all", x.count(6), 6 * 198 + 594);
        due("sizes", x.count(5), 594);
    }

    private static void halfCut() {
        int[] sizes = {0, 1, 2, 3, 98, 99};
        int[] halves = {0, 0, 1, 1, 49, 49};
        for (int i = 0; i < sizes.length; i++) {
            DegreeInMistakes x = Check.of("s00;s00;");
            x.errs(0, 0, sizes[i], 99);
            due("half of " + sizes[i], x.corrects(1, 0), halves[i]);
            due("size", x.error(0, 2), halves[i]);
            due("corrected", x.error(0, 4), 1);
        }
    }

    private static void whoCorrectsIsSentDown() {
        DegreeInMistakes x = Check.of("s00;s00;s00;e008099;d0;");
        due("an error of one sent down", x.corrects(2, 0), 40);
        due("who is in", x.count(3), 2);
        due("who made it stays as he is", x.student(0, 2), 0);
        due("in again", x.sends(2), 1);
        due("not once more", x.corrects(2, 0), -3);
        due("in still", x.student(2, 2), 1);
    }
}
