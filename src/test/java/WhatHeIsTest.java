/** Promises 26 to 30: order, whatIs, two, odds, mean. */
public final class WhatHeIsTest {
    private static final Check CHECK = new Check("WhatHeIsTest");

    public static void main(String[] args) {
        order();
        rowRefusals();
        whatIs();
        whatIsBySorts();
        whatIsOfFreshmenAndWits();
        whatIsOfStudents();
        two();
        odds();
        mean();
        CHECK.end();
    }

    private static void due(String call, long got, long want) {
        CHECK.due(call, got, want);
    }

    private static void told(DegreeInMistakes x, int want, int... row) {
        for (int sort = 0; sort < 3; sort++) {
            Check.fill(x, 0, sort, row);
            due("order of " + java.util.Arrays.toString(row) + " of sort " + sort, x.order(0), want);
        }
    }

    private static void order() {
        DegreeInMistakes x = Check.of("s00;e000099;e000000;e000099;e000001;");
        told(x, -4);
        told(x, -4, 0, 1, 2, 3);
        told(x, -4, 2, 0, 1, 3);
        told(x, -4, 3, 2, 0);
        told(x, -4, 1);
        told(x, 0, 1, 0);
        told(x, 1, 2, 3, 0, 1);
        told(x, 2, 0, 2, 0);
        told(x, 2, 0, 1, 0);
        told(x, 1, 2, 4);
        told(x, 0, -1, 0);
        told(x, 0, -128);
        // 99 is no ERROR that any cites, though CITING none is told so.
        told(x, 1, 0, 99);
        told(x, 1, 0, 5, 0);
    }

    private static void rowRefusals() {
        DegreeInMistakes x = Check.of("s00;e000099;");
        due("order(-1)", x.order(-1), -1);
        due("order(8)", x.order(8), -1);
        due("order(1)", x.order(1), -11);
        due("whatIs(-1, 0, 0)", x.whatIs(-1, 0, 0), -1);
        due("whatIs(8, 0, 0)", x.whatIs(8, 0, 0), -1);
        due("whatIs(1, 1, 0)", x.whatIs(1, 1, 0), -1);
        due("whatIs(1, -1, 0)", x.whatIs(1, -1, 0), -1);
        due("whatIs(1, 0, 2)", x.whatIs(1, 0, 2), -1);
        due("whatIs(1, 0, -1)", x.whatIs(1, 0, -1), -1);
        due("whatIs(1, 0, 0)", x.whatIs(1, 0, 0), -11);
        x.keep(1, 1, 0, 0);
        due("order of one", x.order(1), -12);
        due("whatIs of one", x.whatIs(1, 0, 0), -12);
        due("whatIs of one, no such error", x.whatIs(1, 1, 0), -1);
    }

    private static void is(DegreeInMistakes x, int kinds, int figures, int... row) {
        Check.fill(x, 0, 1, row);
        String told = java.util.Arrays.toString(row);
        due("kinds by " + told, x.whatIs(0, 0, 0), kinds);
        due("figures by " + told, x.whatIs(0, 0, 1), figures);
    }

    /** He is a fellow of FIGURE 4: other KINDS are tried with FIGURE 4, other FIGURES as a fellow's. */
    private static void whatIs() {
        DegreeInMistakes x = Check.of("s34;s00;e001099;");
        int skip = -32768;
        is(x, 255, 1023);
        is(x, 255, 1023, 10);
        is(x, 0, 0, 11);
        is(x, 255, 1023, skip, skip);
        is(x, 1 << 7, 0, 10, 10);
        is(x, 1 | 1 << 2, 0, 10, 11);
        is(x, 1, 0, 10, 11, 12);
        is(x, 1 << 2, 0, 10, 11, 11);
        is(x, 1 << 1 | 1 << 6 | 1 << 4, 0, 10, 12);
        is(x, 1 << 1 | 1 << 6, 0, 10, skip, 14);
        is(x, 1 << 3, 1023, 10, 14);
        is(x, 1 << 3, 1023, 10, skip, skip, 22);
        is(x, 1 << 5, 0, skip, 13, 16);
        is(x, 1 << 4, 0, 10, 12, 13);
        // Only wits of another FIGURE grow so, and he has FIGURE 4.
        is(x, 0, 0, 10, 13, 15);
        is(x, 0, 0, 10, 14, 17);
        is(x, 0, 0, 10, 15);
        x.weeks(1);
        is(x, 1 << 2 | 1 << 7, 0, 14, 14);
        is(x, 1 << 3, 1023, 14, 18);
        x.sends(0);
        is(x, 255, 1023, 14, 14, 14);
        is(x, 0, 0, 14, 15);
        x.sends(0);
        x.corrects(1, 0);
        is(x, 255, 1023, 7, 7);
        due("nothing has changed", x.count(2), 1);
    }

    private static void whatIsBySorts() {
        DegreeInMistakes x = Check.of("s00;e009599;");
        // 99 at most.
        is(x, 1 << 3, 0, 95, 99, 99);
        Check.fill(x, 0, 0, -128, 96);
        due("bytes skip -128", x.whatIs(0, 0, 0), 1 | 1 << 2 | 1 << 4);
        due("figures, bytes skip -128", x.whatIs(0, 0, 1), 1023);
        Check.fill(x, 0, 2, -32768, 96);
        due("ints don't skip -32768", x.whatIs(0, 0, 0), 0);
        due("figures, ints don't skip -32768", x.whatIs(0, 0, 1), 0);
        Check.fill(x, 0, 2, Integer.MIN_VALUE, 96);
        due("ints skip their least", x.whatIs(0, 0, 0), 1 | 1 << 2 | 1 << 4);
        due("figures, ints skip their least", x.whatIs(0, 0, 1), 1023);
        x.row(0, 2, 100);
        for (int i = 0; i < 100; i++) {
            x.put(0, i, 99);
        }
        x.put(0, 0, 95);
        due("99 weeks on", x.whatIs(0, 0, 0), 1 << 3);
        due("figures, 99 weeks on", x.whatIs(0, 0, 1), 0);
    }

    /** Of freshmen no FIGURE matters; of wits the FIGURE that he has tells KINDS, his KIND lets FIGURES be told. */
    private static void whatIsOfFreshmenAndWits() {
        DegreeInMistakes x = Check.of("s29;e001099;");
        is(x, 1 << 2, 1023, 10, 11, 11, 12);
        is(x, 1 << 3 | 1 << 4, 0, 10, 14);
        is(x, 1 << 4, 0, 10, 14, 17);
        is(x, 1, 0, 10, 11, 12);
        x = Check.of("s40;e001099;");
        is(x, 1 << 2 | 1 << 4, 7, 10, 11, 11);
        is(x, 0, 7 << 3, 10, 12, 13);
        is(x, 0, 7 << 6, 10, 13, 15);
        is(x, 0, 1 << 9, 10, 14, 17);
        is(x, 1 << 1 | 1 << 6, 7 << 3, 10, 12);
        is(x, 1, 0, 10, 11, 12);
        x = Check.of("s47;e001099;");
        is(x, 1 << 2, 7, 10, 11, 11);
        is(x, 0, 7 << 3, 10, 12, 13);
        is(x, 1 << 4, 7 << 6, 10, 13, 15);
        is(x, 1 << 4 | 1 << 5, 7 << 6, 10, 13);
        // FIGURE 7 by 3 is 2 in an even WEEK, as a don's and a genius's.
        x.weeks(1);
        is(x, 1 << 1 | 1 << 4 | 1 << 6, 7 << 6, 13, 15);
        is(x, 1, 7 << 3, 13, 14);
        is(x, 1 << 2 | 1 << 7, 7, 13, 13);
        // Who made the ERROR is asked about, not the first one.
        x = Check.of("s00;s49;e101099;");
        is(x, 1 << 4, 1 << 9, 10, 14, 17);
        is(x, 1, 0, 10, 11, 12);
    }

    /** A student, who RIPENS 1 whatever his FIGURE. */
    private static void whatIsOfStudents() {
        DegreeInMistakes x = Check.of("s00;e000099;e000000;e000000;");
        is(x, 1 << 7, 0, 0, 0);
        is(x, 1 | 1 << 2 | 1 << 4, 1023, 0, 1);
        is(x, 0, 0, 0, 0, 1);
    }

    private static void two() {
        DegreeInMistakes x = Check.of("s00;s00;s00;s00;e002099;e113099;d3;");
        due("both let theirs stand", x.two(0, 1), 11);
        due("the other way", x.two(1, 0), 11);
        due("two(0, 0)", x.two(0, 0), -1);
        due("two(4, 0)", x.two(4, 0), -1);
        due("two(0, 4)", x.two(0, 4), -1);
        due("two(-1, 0)", x.two(-1, 0), -1);
        due("two(0, -1)", x.two(0, -1), -1);
        due("he has made none", x.two(2, 0), -3);
        due("the other has made none", x.two(0, 2), -3);
        due("sent down", x.two(3, 0), -3);
        due("the other is sent down", x.two(0, 3), -3);
        due("sent down and twice", x.two(3, 3), -1);
        due("sizes stay", x.count(5), 50);
        // SIZE 0 is as much by either choice: the first pair.
        x = Check.of("s00;s00;e000099;e110099;");
        due("nothing to choose", x.two(0, 1), 0);
        // A corrected one is halved, too, though it is marked nothing.
        x = Check.of("s00;s00;s00;e002099;e113099;c200;");
        due("a corrected one", x.two(0, 1), 1);
        // Two geniuses at one TOPIC: both are MARKED for how far they are from each other.
        x = Check.of("s60;s60;e004099;e104099;");
        due("far from each other", x.two(0, 1), 1);
        x = Check.of("s60;s00;e004099;e106099;e103099;");
        due("the least one of theirs", x.two(0, 1), 1);
        // The genius wants to be far from the freshman, who wants him near: no pair is at rest.
        x = Check.of("s60;s20;e009099;e108099;");
        due("no pair", x.two(0, 1), -4);
        due("no pair, the other way", x.two(1, 0), -4);
    }

    private static void odds() {
        DegreeInMistakes x = Check.of("s00;s00;e001099;e012099;e023099;e134099;");
        // MARKS 10, 20, 30: 60 only if none is corrected, 50 without the first, 30 by several.
        due("60 of 60, above", x.odds(0, 60, 2, 0), 1);
        due("60 of 60, below", x.odds(0, 60, 2, 1), 8);
        due("50 (12 by 27) in least terms, above", x.odds(0, 50, 3, 0), 4);
        due("50 (12 by 27) in least terms, below", x.odds(0, 50, 3, 1), 9);
        due("30 at t 3, above", x.odds(0, 30, 3, 0), 22);
        due("30 at t 3, below", x.odds(0, 30, 3, 1), 27);
        due("61, above", x.odds(0, 61, 20, 0), 0);
        due("61, below", x.odds(0, 61, 20, 1), 1);
        due("0, above", x.odds(0, 0, 20, 0), 1);
        due("0, below", x.odds(0, 0, 20, 1), 1);
        due("1 at t 20, above", x.odds(0, 1, 20, 0), 7999);
        due("1 at t 20, below", x.odds(0, 1, 20, 1), 8000);
        due("v 999", x.odds(0, 999, 2, 0), 0);
        long refused = 1000000001L;
        due("s 2", x.odds(2, 0, 2, 0), refused);
        due("s -1", x.odds(-1, 0, 2, 0), refused);
        due("v -1", x.odds(0, -1, 2, 0), refused);
        due("v 1000", x.odds(0, 1000, 2, 0), refused);
        due("t 1", x.odds(0, 0, 1, 0), refused);
        due("t 21", x.odds(0, 0, 21, 0), refused);
        due("part 2", x.odds(0, 0, 2, 2), refused);
        due("part -1", x.odds(0, 0, 2, -1), refused);
        x.corrects(1, 2);
        due("a corrected one is out of it, above", x.odds(0, 30, 4, 0), 9);
        due("a corrected one is out of it, below", x.odds(0, 30, 4, 1), 16);
        x = Check.of("s00;");
        for (int e = 0; e < 12; e++) {
            x.errs(0, 0, 1, 99);
        }
        due("12 errors, above", x.odds(0, 12, 20, 0), 2213314919066161L);
        due("12 errors, below", x.odds(0, 12, 20, 1), 4096000000000000L);
        due("12 errors, one at least", x.odds(0, 1, 20, 0), 4095999999999999L);
        // NOVELTY counts by the others, corrected or not.
        x = Check.of("s60;s00;e004099;e105099;");
        due("a genius near another's", x.odds(0, 20, 2, 1), 2);
        due("not more by its correction", x.odds(0, 21, 2, 0), 0);
    }

    private static void mean() {
        DegreeInMistakes x = new DegreeInMistakes();
        due("mean(0) of none", x.mean(0), 0);
        due("mean(1) of none", x.mean(1), 1);
        due("mean(2)", x.mean(2), 1000000001L);
        due("mean(-1)", x.mean(-1), 1000000001L);
        x = Check.of("s00;s00;e001099;e001599;e002099;e000199;");
        due("46 by 4, above", x.mean(0), 23);
        due("46 by 4, below", x.mean(1), 2);
        x.corrects(1, 2);
        due("36 by 4, above", x.mean(0), 9);
        due("36 by 4, below", x.mean(1), 1);
        x = Check.of("s00;e004699;");
        due("46 by 1, above", x.mean(0), 46);
        due("46 by 1, below", x.mean(1), 1);
        x = Check.of("s00;e000099;e000099;");
        due("0 by 2, above", x.mean(0), 0);
        due("0 by 2, below", x.mean(1), 1);
    }
}
