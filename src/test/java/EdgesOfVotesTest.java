/** Promises 23 to 36 at their edges: elections, examiners, told rows, odds, terms, the image, counts. */
public final class EdgesOfVotesTest {
    private static final Check CHECK = new Check("EdgesOfVotesTest");
    /** The least numbers of the SORTS. */
    private static final int[] LEAST = {-128, -32768, Integer.MIN_VALUE};

    public static void main(String[] args) {
        votesOfNobody();
        votesOfOneAlone();
        votesOfSeveral();
        slipsOfSix();
        slipsOfThree();
        slipsOfTwo();
        examinersOfNone();
        examinersOfOnesOwn();
        examinersOneAtMost();
        orderOfRowsAtTheirEdges();
        orderTwice();
        whatIsOfRowsAtTheirEdges();
        whatIsSkips();
        twoByWhatIsCut();
        twoOfSeveral();
        oddsOfNothing();
        oddsAtTheirEdges();
        means();
        forgedAtItsEdges();
        judgedAtItsEdges();
        judgedSkips();
        termsBySeeds();
        termsElected();
        termsFromNow();
        imageAtItsEdges();
        imageIsTheLater();
        counts();
        CHECK.end();
    }

    private static void due(String call, long got, long want) {
        CHECK.due(call, got, want);
    }

    private static void fraction(String call, long above, long below, long wantAbove, long wantBelow) {
        due(call + ", above", above, wantAbove);
        due(call + ", below", below, wantBelow);
    }

    private static DegreeInMistakes twelve(String students, int size) {
        DegreeInMistakes x = Check.of(students);
        for (int e = 0; e < 12; e++) {
            x.errs(0, e % 6, size, 99);
        }
        return x;
    }

    private static void votesOfNobody() {
        DegreeInMistakes x = new DegreeInMistakes();
        due("no students", x.votes(-1), -4);
        x = Check.of("s00;s00;d0;d1;");
        due("nobody is in", x.votes(-1), -4);
        due("votes(0)", x.votes(0), 0);
        due("votes(1)", x.votes(1), 0);
    }

    private static void votesOfOneAlone() {
        DegreeInMistakes x = Check.of("s00;e009999;s00;d0;");
        due("alone he votes for nobody", x.votes(1), 0);
        due("nor for one sent down", x.votes(0), 0);
        due("elected with none", x.votes(-1), 1);
    }

    private static void votesOfSeveral() {
        DegreeInMistakes x = Check.of("s00;s00;s00;s00;s00;s00;");
        int[] nothing = {5, 1, 0, 0, 0, 0};
        for (int s = 0; s < 6; s++) {
            due("as many: nothing, votes(" + s + ")", x.votes(s), nothing[s]);
        }
        due("elected", x.votes(-1), 0);
        Check.tell(x, "e503099;e413099;");
        int[] two = {0, 0, 0, 0, 5, 1};
        for (int s = 0; s < 6; s++) {
            due("as many: 30, votes(" + s + ")", x.votes(s), two[s]);
        }
        due("elected", x.votes(-1), 4);
        x = Check.of("s00;s00;e109999;");
        due("of two each has one: the least", x.votes(-1), 0);
    }

    private static void slipsOfSix() {
        DegreeInMistakes x = Check.of("s00;s00;s00;s00;s00;s00;");
        int[] slips = {0, 3, 3, 3, 3, 3};
        for (int s = 0; s < 6; s++) {
            due("votes 5, 1, 0, ..: slips(" + s + ")", x.slips(s), slips[s]);
        }
        x.errs(5, 0, 1, 99);
        // 5 has five votes, 0 has one.
        int[] others = {2, 3, 3, 3, 3, 0};
        for (int s = 0; s < 6; s++) {
            due("votes 1, 0, .., 5: slips(" + s + ")", x.slips(s), others[s]);
        }
        x.sends(3);
        due("sent down", x.slips(3), -4);
        due("four and one", x.slips(1), 2);
    }

    private static void slipsOfThree() {
        DegreeInMistakes x = Check.of("s00;s00;s00;");
        due("two, one, none: the first", x.slips(0), 0);
        due("the second", x.slips(1), 1);
        due("the third", x.slips(2), 2);
        x = Check.of("s00;s00;s00;e102099;e201099;");
        due("none, two, one: one each is enough for the least", x.slips(0), 1);
        due("the second", x.slips(1), 0);
        due("the third", x.slips(2), 1);
    }

    private static void slipsOfTwo() {
        DegreeInMistakes x = Check.of("s00;s00;");
        due("one each", x.slips(0), 0);
        due("his own vote, too", x.slips(1), 1);
        x.sends(0);
        due("alone, without votes", x.slips(1), 0);
        due("sent down", x.slips(0), -4);
        x.sends(1);
        due("nobody is in", x.slips(1), -4);
    }

    private static void examinersOfNone() {
        DegreeInMistakes x = Check.of("s00;s00;");
        due("no errors", x.examiners(-1), 0);
        x.errs(0, 0, 0, 99);
        due("one", x.examiners(-1), 1);
        due("by the other", x.examiners(0), 1);
        x.sends(0);
        due("of one sent down, too", x.examiners(0), 1);
        x.corrects(1, 0);
        x.sends(1);
        due("all corrected", x.examiners(-1), 0);
        due("nobody", x.examiners(0), -4);
        x = Check.of("s00;s00;e000099;d0;d1;");
        due("nobody is in", x.examiners(-1), 0);
        due("nobody", x.examiners(0), -4);
    }

    private static void examinersOfOnesOwn() {
        DegreeInMistakes x = Check.of("s00;e000099;e000099;");
        due("one alone", x.examiners(-1), 0);
        due("nobody", x.examiners(1), -4);
        x = Check.of("s00;s00;e000099;e100099;");
        due("each the other's", x.examiners(-1), 2);
        due("examiners(0)", x.examiners(0), 1);
        due("examiners(1)", x.examiners(1), 0);
    }

    private static void examinersOneAtMost() {
        DegreeInMistakes x = twelve("s00;s00;", 0);
        due("one but his who made twelve", x.examiners(-1), 1);
        due("he marks the first", x.examiners(0), 1);
        for (int e = 1; e < 12; e++) {
            due("nobody", x.examiners(e), -4);
        }
        x = twelve("s00;s00;s00;s00;s00;s00;", 0);
        due("five but him", x.examiners(-1), 5);
        for (int e = 0; e < 12; e++) {
            due("examiners(" + e + ")", x.examiners(e), e < 5 ? e + 1 : -4);
        }
        x = Check.of("s00;s00;s00;e000099;");
        due("one error has one", x.examiners(-1), 1);
        due("the least", x.examiners(0), 1);
    }

    private static DegreeInMistakes chain() {
        DegreeInMistakes x = Check.of("s00;e000099;");
        for (int e = 1; e < 12; e++) {
            x.errs(0, 0, 0, e - 1);
        }
        return x;
    }

    private static void orderOfRowsAtTheirEdges() {
        for (int sort = 0; sort < 3; sort++) {
            DegreeInMistakes x = new DegreeInMistakes();
            x.row(0, sort, 0);
            due("an empty row of a new one", x.order(0), -4);
            x.row(0, sort, 1);
            due("0 of a new one", x.order(0), 0);
            x = chain();
            Check.fill(x, 0, sort, 0, 1, 2, 3, 4, 5, 6, 7, 8, 9, 10, 11);
            due("all twelve", x.order(0), -4);
            x.put(0, 11, 12);
            due("no such error 12", x.order(0), 11);
            x.put(0, 11, LEAST[sort]);
            due("the least number is not skipped", x.order(0), 11);
            Check.fill(x, 0, sort, 0, 1, 2, 3, 4, 5, 6, 7, 8, 9, 11, 10);
            due("the last two", x.order(0), 10);
            Check.fill(x, 0, sort, 11, 9, 7, 5, 3, 1);
            due("what they cite does not come", x.order(0), -4);
            Check.fill(x, 0, sort, 11, 9, 7, 5, 3, 1, 0);
            due("what one cites comes later", x.order(0), 5);
            x.row(0, sort, 100);
            due("a hundred times 0", x.order(0), 1);
            Check.fill(x, 0, sort, -1);
            due("-1", x.order(0), 0);
        }
        DegreeInMistakes x = chain();
        Check.fill(x, 0, 0, 256, 257);
        due("256 in a byte is 0", x.order(0), -4);
    }

    private static void orderTwice() {
        DegreeInMistakes x = Check.of("s00;e000099;e000099;e000000;");
        Check.fill(x, 0, 1, 1, 0, 1);
        due("twice", x.order(0), 2);
        Check.fill(x, 0, 1, 1, 1);
        due("twice at once", x.order(0), 1);
        Check.fill(x, 0, 1, 0, 2, 0);
        due("who cites it is behind its first place", x.order(0), 2);
        Check.fill(x, 0, 1, 2, 0, 2);
        due("ahead of it, and twice", x.order(0), 0);
    }

    private static void whatIsOfRowsAtTheirEdges() {
        DegreeInMistakes x = Check.of("s00;e001099;");
        for (int sort = 0; sort < 3; sort++) {
            x.row(0, sort, 0);
            due("an empty row: all kinds", x.whatIs(0, 0, 0), 255);
            due("an empty row: all figures", x.whatIs(0, 0, 1), 1023);
            Check.fill(x, 0, sort, 11);
            due("not so now", x.whatIs(0, 0, 0), 0);
            due("not so now", x.whatIs(0, 0, 1), 0);
        }
        x = Check.of("s00;e003999;");
        x.row(0, 0, 100);
        for (int n = 0; n < 100; n++) {
            x.put(0, n, Math.min(99, 39 + n));
        }
        due("99 weeks on, no more than 99", x.whatIs(0, 0, 0), 1);
        x.put(0, 99, 98);
        due("the last is not so", x.whatIs(0, 0, 0), 0);
        due("the last is not so", x.whatIs(0, 0, 1), 0);
    }

    private static void whatIsSkips() {
        for (int sort = 0; sort < 3; sort++) {
            DegreeInMistakes x = Check.of("s00;e001099;");
            Check.fill(x, 0, sort, LEAST[sort], LEAST[sort], LEAST[sort]);
            due("all skipped: all kinds", x.whatIs(0, 0, 0), 255);
            due("all skipped: all figures", x.whatIs(0, 0, 1), 1023);
            Check.fill(x, 0, sort, LEAST[sort], LEAST[sort], 13);
            due("a freshman's and 2: no kind of figure 0", x.whatIs(0, 0, 0), 0);
            Check.fill(x, 0, sort, LEAST[sort], 12, LEAST[sort], 16);
            due("dons and geniuses", x.whatIs(0, 0, 0), 1 << 1 | 1 << 6);
            Check.fill(x, 0, sort, LEAST[sort] + 1);
            due("one more than the least is told", x.whatIs(0, 0, 0), 0);
            if (sort > 0) {
                Check.fill(x, 0, sort, LEAST[sort - 1]);
                due("the least of another sort is told", x.whatIs(0, 0, 0), 0);
            }
        }
    }

    /** A proctor who has nothing himself chooses how far he is from the other's error of SIZE 3. */
    private static void twoByWhatIsCut() {
        DegreeInMistakes x = Check.of("s70;s30;e000199;e150099;e100399;");
        due("half of 104 and of 105 is as much", x.two(0, 1), 0);
        due("the other way", x.two(1, 0), 0);
        x = Check.of("s70;s30;e000299;e150099;e100399;");
        due("half of 103 is less than of 104", x.two(0, 1), 10);
        due("the other way", x.two(1, 0), 1);
    }

    private static void twoOfSeveral() {
        DegreeInMistakes x = Check.of("s00;s00;e000099;e110099;");
        due("half of 0 is as much: the first pair", x.two(0, 1), 0);
        x = Check.of("s00;s00;e000199;e110199;");
        due("half of 1, cut, is less", x.two(0, 1), 11);
        x = Check.of("s70;s00;e000199;e110199;");
        due("nothing either way", x.two(0, 1), 1);
        x = Check.of("s60;s20;e009099;e108099;");
        due("none", x.two(0, 1), -4);
        // The least one of theirs by numbers, not by SIZE.
        x = Check.of("s00;s00;e000099;e000199;e110099;");
        due("the first of his", x.two(0, 1), 0);
    }

    private static void oddsOfNothing() {
        DegreeInMistakes x = Check.of("s00;s70;s00;e105099;e215099;c001;d0;");
        for (int t = 2; t <= 20; t += 18) {
            fraction("no errors, v 0", x.odds(0, 0, t, 0), x.odds(0, 0, t, 1), 1, 1);
            fraction("no errors, v 1", x.odds(0, 1, t, 0), x.odds(0, 1, t, 1), 0, 1);
            fraction("a proctor, v 0", x.odds(1, 0, t, 0), x.odds(1, 0, t, 1), 1, 1);
            fraction("a proctor, v 1", x.odds(1, 1, t, 0), x.odds(1, 1, t, 1), 0, 1);
            fraction("all corrected, v 0", x.odds(2, 0, t, 0), x.odds(2, 0, t, 1), 1, 1);
            fraction("all corrected, v 1", x.odds(2, 1, t, 0), x.odds(2, 1, t, 1), 0, 1);
        }
    }

    private static void oddsAtTheirEdges() {
        DegreeInMistakes x = Check.of("s00;s00;e002099;e100099;e011099;d0;");
        for (int t = 2; t <= 20; t++) {
            fraction("v 0 at " + t, x.odds(0, 0, t, 0), x.odds(0, 0, t, 1), 1, 1);
            fraction("all of it at " + t, x.odds(0, 30, t, 0), x.odds(0, 30, t, 1), (t - 1) * (t - 1), t * t);
            fraction("one more at " + t, x.odds(0, 31, t, 0), x.odds(0, 31, t, 1), 0, 1);
            fraction("the greater one at " + t, x.odds(0, 20, t, 0), x.odds(0, 20, t, 1), t - 1, t);
            fraction("any at " + t, x.odds(0, 1, t, 0), x.odds(0, 1, t, 1), t * t - 1, t * t);
        }
        x.corrects(1, 0);
        fraction("a corrected one", x.odds(0, 10, 2, 0), x.odds(0, 10, 2, 1), 1, 2);
        fraction("a corrected one", x.odds(0, 11, 2, 0), x.odds(0, 11, 2, 1), 0, 1);
        x = twelve("s00;", 99);
        fraction("999: eleven of 99", x.odds(0, 999, 2, 0), x.odds(0, 999, 2, 1), 13, 4096);
        x = twelve("s00;", 1);
        fraction("999 of 12", x.odds(0, 999, 20, 0), x.odds(0, 999, 20, 1), 0, 1);
        fraction("twelve at 20", x.odds(0, 12, 20, 0), x.odds(0, 12, 20, 1), 2213314919066161L, 4096000000000000L);
        fraction("twelve at 2", x.odds(0, 12, 2, 0), x.odds(0, 12, 2, 1), 1, 4096);
    }

    private static void means() {
        DegreeInMistakes x = new DegreeInMistakes();
        fraction("of none", x.mean(0), x.mean(1), 0, 1);
        x = twelve("s00;", 0);
        fraction("of twelve times 0", x.mean(0), x.mean(1), 0, 1);
        x = twelve("s00;", 99);
        fraction("of twelve times 99", x.mean(0), x.mean(1), 99, 1);
        x = Check.of("s00;e009999;");
        fraction("of one", x.mean(0), x.mean(1), 99, 1);
        for (int e = 1; e < 12; e++) {
            x.errs(0, 0, 0, 99);
        }
        fraction("99 by 12", x.mean(0), x.mean(1), 33, 4);
        x = Check.of("s00;e000199;e000099;e000099;e000099;e000099;e000099;e000099;");
        fraction("1 by 7", x.mean(0), x.mean(1), 1, 7);
    }

    private static void forgedAtItsEdges() {
        for (int sort = 0; sort < 3; sort++) {
            DegreeInMistakes x = new DegreeInMistakes();
            x.row(0, sort, 0);
            due("an empty row, no errors", x.forged(0), -4);
            x.row(0, sort, 1);
            due("0, no errors", x.forged(0), 0);
            x = twelve("s00;", 99);
            x.row(0, sort, 100);
            for (int e = 0; e < 100; e++) {
                x.put(0, e, 99);
            }
            due("the thirteenth", x.forged(0), 12);
            x.put(0, 11, 98);
            due("the twelfth", x.forged(0), 11);
            x.put(0, 0, LEAST[sort]);
            due("the least number is not skipped", x.forged(0), 0);
            Check.fill(x, 0, sort, 99, 99, 99);
            due("some of them", x.forged(0), -4);
        }
        DegreeInMistakes x = Check.of("s00;e000099;");
        Check.fill(x, 0, 0, 256);
        due("256 in a byte is 0", x.forged(0), -4);
        Check.fill(x, 0, 1, 256);
        due("256 in a short is 256", x.forged(0), 0);
    }

    private static void judgedAtItsEdges() {
        for (int sort = 0; sort < 3; sort++) {
            DegreeInMistakes x = new DegreeInMistakes();
            x.row(0, sort, 0);
            due("an empty row", x.judge(0), -4);
            x.row(0, sort, 100);
            due("a hundred times 0 of a new one", x.judge(0), -4);
            x = Check.of("s00;e000099;");
            x.row(0, sort, 100);
            for (int n = 0; n < 100; n++) {
                x.put(0, n, n);
            }
            due("0 to 99", x.judge(0), -4);
            x.put(0, 99, 98);
            due("the last", x.judge(0), 99);
            x.put(0, 0, 1);
            due("now", x.judge(0), 0);
            due("week", x.count(2), 0);
        }
        // MARKS above what a byte holds can't be told by bytes.
        DegreeInMistakes x = Check.of("s60;e000099;e010099;d0;");
        Check.fill(x, 0, 0, 396);
        due("396 in a byte is -116", x.judge(0), 0);
        Check.fill(x, 0, 1, 396);
        due("396 in a short", x.judge(0), -4);
    }

    private static void judgedSkips() {
        for (int sort = 0; sort < 3; sort++) {
            DegreeInMistakes x = Check.of("s00;e000099;");
            Check.fill(x, 0, sort, LEAST[sort], LEAST[sort]);
            due("all skipped", x.judge(0), -4);
            Check.fill(x, 0, sort, LEAST[sort], 1, LEAST[sort], 3, LEAST[sort]);
            due("two told", x.judge(0), -4);
            Check.fill(x, 0, sort, LEAST[sort], 1, LEAST[sort], 2, LEAST[sort]);
            due("the second told is not so", x.judge(0), 3);
            Check.fill(x, 0, sort, 0, LEAST[sort] + 1);
            due("one more than the least is told", x.judge(0), 1);
            if (sort > 0) {
                Check.fill(x, 0, sort, LEAST[sort - 1]);
                due("the least of another sort is told", x.judge(0), 0);
            }
        }
    }

    private static final int[] SEEDS = {0, 1, -1, 12345, -12345, 65535, 1 << 16, 1 << 30, Integer.MIN_VALUE,
        Integer.MAX_VALUE, -1103515245, 1103527590};

    private static int next(int z) {
        return (int) ((long) z * 1103515245L + 12345L);
    }

    private static int draw(int z) {
        return (int) ((z & 0x7fffffffL) / 65536 % 100);
    }

    private static void termsBySeeds() {
        DegreeInMistakes x = Check.of("s00;e009999;e019999;");
        for (int seed : SEEDS) {
            int z = seed;
            int together = 0;
            for (int n = 1; n <= 20; n++) {
                for (int e = 0; e < 2; e++) {
                    z = next(z);
                    together += Math.min(99, draw(z) + 5);
                }
                if (n < 3 || n == 20) {
                    due("terms(" + n + ", " + seed + ", 0)", x.terms(n, seed, 0), together);
                }
            }
        }
        due("sizes", x.count(5), 198);
    }

    /** Of three the one with most has the votes of both others. */
    private static void termsElected() {
        DegreeInMistakes x = Check.of("s00;s00;s00;e000099;e110099;e220099;");
        for (int seed : SEEDS) {
            int z = seed;
            int together = 0;
            for (int n = 1; n <= 20; n++) {
                int best = 0;
                int most = -1;
                for (int s = 0; s < 3; s++) {
                    z = next(z);
                    int marks = Math.min(99, draw(z) + 5);
                    best = marks > most ? s : best;
                    most = Math.max(most, marks);
                }
                together += best;
            }
            due("terms(20, " + seed + ", 1)", x.terms(20, seed, 1), together);
        }
        x = new DegreeInMistakes();
        due("nobody: 9", x.terms(1, 5, 1), 9);
        due("nobody: 20 times 9", x.terms(20, 5, 1), 180);
        due("no marks", x.terms(20, 5, 0), 0);
        x = Check.of("s00;s00;d0;");
        due("one alone, no errors", x.terms(20, 5, 1), 20);
        x.sends(1);
        due("nobody is in", x.terms(20, 5, 1), 180);
    }

    private static void termsFromNow() {
        DegreeInMistakes x = Check.of("s20;w01;e005099;");
        // Of the WEEKS 2 to 6 two are odd, in each term.
        int z = next(7);
        int first = Math.min(99, draw(z) + 2) / 2;
        z = next(z);
        int second = Math.min(99, draw(z) + 2) / 2;
        due("one", x.terms(1, 7, 0), first);
        due("two", x.terms(2, 7, 0), first + second);
        due("week", x.count(2), 1);
        due("size", x.error(0, 2), 50);
        x = Check.of("s00;s00;s00;e005099;e005099;c100;");
        // The corrected one draws first; it keeps its SIZE and makes NOVELTY alone.
        due("a corrected one draws, too", x.terms(1, 7, 0), Math.min(99, draw(next(next(7))) + 5));
    }

    private static void imageAtItsEdges() {
        DegreeInMistakes x = new DegreeInMistakes();
        due("none", x.restore(), -3);
        due("of a new one", x.image(), 0);
        due("restored", x.restore(), 0);
        x = twelve("s00;s11;s22;s33;s44;s55;", 50);
        for (int i = 0; i < 16; i++) {
            x.weeks(60);
        }
        x.weeks(39);
        due("at week 999", x.image(), 999);
        x.corrects(5, 3);
        due("restored at week 999", x.restore(), 999);
        due("week", x.count(2), 999);
        due("no weeks", x.weeks(1), -3);
        due("no room", x.errs(0, 0, 0, 99), -2);
        due("none corrected", x.count(4), 0);
        due("all in", x.count(3), 63);
    }

    private static void imageIsTheLater() {
        DegreeInMistakes x = Check.of("s00;e001099;");
        due("the first", x.image(), 0);
        x.weeks(5);
        due("the later", x.image(), 5);
        x.weeks(7);
        x.keep(0, 1, 6, 6);
        due("restored", x.restore(), 5);
        due("size", x.error(0, 2), 15);
        due("the shelf stays", x.cost(0), 16);
        Check.tell(x, "s00;e100500;c100;");
        due("more of it", x.count(4), 1);
        due("restored once more", x.restore(), 5);
        due("students", x.count(0), 1);
        due("errors", x.count(1), 1);
        due("none corrected", x.count(4), 0);
        due("not cited", x.error(0, 5), 0);
        due("the text stays on its shelf", x.college(7), 3);
    }

    private static void counts() {
        DegreeInMistakes x = twelve("s00;s00;s00;s00;s00;s00;", 99);
        due("students", x.count(0), 6);
        due("errors", x.count(1), 12);
        due("in", x.count(3), 63);
        due("none corrected", x.count(4), 0);
        due("sizes", x.count(5), 1188);
        due("marks", x.count(6), 1188);
        for (int e = 0; e < 12; e++) {
            due("corrects", x.corrects(1, e), 49);
            due("sends", x.sends(1), 1);
        }
        due("all corrected", x.count(4), 4095);
        due("their sizes count", x.count(5), 588);
        due("their marks don't", x.count(6), 0);
        due("in", x.count(3), 63);
    }
}
