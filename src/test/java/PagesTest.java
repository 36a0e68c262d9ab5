/** Promises 31 to 36: forged, judge, terms, image, restore, count. */
public final class PagesTest {
    private static final Check CHECK = new Check("PagesTest");

    public static void main(String[] args) {
        forged();
        judge();
        terms();
        image();
        count();
        CHECK.end();
    }

    private static void due(String call, long got, long want) {
        CHECK.due(call, got, want);
    }

    private static void forged() {
        DegreeInMistakes x = Check.of("s00;s00;e001099;e001599;e002099;c102;");
        due("forged(-1)", x.forged(-1), -1);
        due("forged(8)", x.forged(8), -1);
        due("forged(0) of nothing", x.forged(0), -11);
        x.keep(0, 1, 0, 0);
        due("forged(0) of one", x.forged(0), -12);
        for (int sort = 0; sort < 3; sort++) {
            Check.fill(x, 0, sort);
            due("an empty page", x.forged(0), -4);
            Check.fill(x, 0, sort, 10, 15);
            due("a true page", x.forged(0), -4);
            Check.fill(x, 0, sort, 10, 15, 10);
            due("all of it, the corrected one, too", x.forged(0), -4);
            Check.fill(x, 0, sort, 10, 15, 20);
            due("the third", x.forged(0), 2);
            Check.fill(x, 0, sort, 10, 16, 20);
            due("the second", x.forged(0), 1);
            Check.fill(x, 0, sort, 10, 15, 10, 0);
            due("no such error", x.forged(0), 3);
        }
        Check.fill(x, 0, 0, -128, 15);
        due("nothing is skipped", x.forged(0), 0);
    }

    private static void judge() {
        DegreeInMistakes x = Check.of("s00;s10;s30;e001099;e112099;d2;");
        due("judge(-1)", x.judge(-1), -1);
        due("judge(8)", x.judge(8), -1);
        due("judge(0) of nothing", x.judge(0), -11);
        x.keep(0, 1, 0, 0);
        due("judge(0) of one", x.judge(0), -12);
        Check.fill(x, 0, 0);
        due("nothing told", x.judge(0), -4);
        Check.fill(x, 0, 0, 30, 33, 36, 39);
        due("all is so", x.judge(0), -4);
        Check.fill(x, 0, 0, 30, -128, -128, 40);
        due("the fourth, others skipped", x.judge(0), 3);
        Check.fill(x, 0, 1, 30, -128, 36);
        due("-128 is not the least of shorts", x.judge(0), 1);
        Check.fill(x, 0, 1, -32768, 33);
        due("-32768 is", x.judge(0), -4);
        Check.fill(x, 0, 2, -32768, 33);
        due("but not of ints", x.judge(0), 0);
        Check.fill(x, 0, 2, Integer.MIN_VALUE, 33, 0);
        due("ints", x.judge(0), 2);
        x.row(0, 1, 100);
        for (int i = 0; i < 100; i++) {
            x.put(0, i, Math.min(99, 10 + i) + Math.min(99, 20 + 2 * i));
        }
        due("99 weeks on", x.judge(0), -4);
        due("week", x.count(2), 0);
    }

    private static int drawn(int z) {
        return (z & 0x7fffffff) / 65536 % 100;
    }

    private static void terms() {
        DegreeInMistakes x = Check.of("s00;s70;e000099;e110099;");
        // MARKS are the first one's DRAW and 5 more, 99 at most; the second DRAW is a proctor's.
        int z = 77;
        int together = 0;
        for (int n = 1; n <= 20; n++) {
            z = z * 1103515245 + 12345;
            together += Math.min(99, drawn(z) + 5);
            z = z * 1103515245 + 12345;
            due("terms(" + n + ", 77, 0)", x.terms(n, 77, 0), together);
        }
        due("two are in: the first is elected", x.terms(20, -5, 1), 0);
        x.sends(0);
        due("the other is alone", x.terms(20, -5, 1), 20);
        x.sends(1);
        due("nobody", x.terms(20, Integer.MIN_VALUE, 1), 180);
        due("n 0", x.terms(0, 1, 0), -1);
        due("n 21", x.terms(21, 1, 0), -1);
        due("what 2", x.terms(1, 1, 2), -1);
        due("what -1", x.terms(1, 1, -1), -1);
        due("sizes", x.count(5), 0);
        due("week", x.count(2), 0);
        x = Check.of("s00;s00;s00;e000099;c100;d1;");
        due("a corrected one draws and gives nothing", x.terms(3, 9, 0), 0);
        // z 1: the first DRAW is (1103527590 / 65536) modulo 100.
        x = Check.of("s70;e000099;d0;");
        due("a proctor gives nothing", x.terms(1, 1, 0), 0);
        x = Check.of("s00;e000099;d0;");
        due("the first draw of 1, sent down", x.terms(1, 1, 0), 16838 % 100);
    }

    private static void image() {
        DegreeInMistakes x = new DegreeInMistakes();
        due("no image", x.restore(), -3);
        due("image of nothing", x.image(), 0);
        Check.tell(x, "s00;s39;e001099;e112000;w07;c100;");
        x.keep(0, 1, 2, 3);
        due("restored", x.restore(), 0);
        due("students", x.count(0), 0);
        due("errors", x.count(1), 0);
        due("week", x.count(2), 0);
        due("the shelf stays", x.cost(0), 4);
        due("the text comes once more", x.college(7), 6);
        due("image", x.image(), 7);
        due("size", x.error(0, 2), 8);
        due("in", x.count(3), 1);
        x.sends(1);
        x.errs(1, 5, 5, 0);
        x.corrects(0, 1);
        x.weeks(9);
        due("cited", x.error(0, 5), 2);
        due("restored", x.restore(), 7);
        due("in", x.count(3), 1);
        due("corrected", x.count(4), 1);
        due("errors", x.count(1), 2);
        due("cited as then", x.error(0, 5), 1);
        due("size as then", x.error(1, 2), 48);
        x.weeks(1);
        due("restored once more", x.restore(), 7);
        due("week", x.count(2), 7);
    }

    private static void count() {
        DegreeInMistakes x = Check.of("s00;s10;s20;e001199;e112199;e222199;w03;c100;");
        due("students", x.count(0), 3);
        due("errors", x.count(1), 3);
        due("week", x.count(2), 3);
        due("in", x.count(3), 5);
        due("corrected", x.count(4), 1);
        due("sizes", x.count(5), 7 + 27 + 23);
        due("marks", x.count(6), 27 + 11);
        due("count(7)", x.count(7), -1);
        due("count(-1)", x.count(-1), -1);
    }
}
