import java.util.Random;

/** Colleges by chance, all calls that only tell held against the plain reckoning of the document. */
public final class PlainTest {
    private static final Check CHECK = new Check("PlainTest");

    public static void main(String[] args) {
        for (int seed = 0; seed < 150; seed++) {
            // An object is promised for 512 calls alone, so each part has its own.
            Random chance = new Random(seed);
            DegreeInMistakes x = college(chance);
            students(seed, x, Plain.of(x), chance);
            x = college(new Random(seed));
            pairs(seed, x, Plain.of(x));
            x = college(new Random(seed));
            errors(seed, x, Plain.of(x), chance);
            x = college(new Random(seed));
            all(seed, x, Plain.of(x), chance);
            x = college(new Random(seed));
            netsAndTopics(seed, x, Plain.of(x));
            x = college(new Random(seed));
            rows(seed, x, Plain.of(x), chance);
        }
        for (int seed = 1000; seed < 1010; seed++) {
            Random chance = new Random(seed);
            DegreeInMistakes x = college(chance);
            odds(seed, x, Plain.of(x), chance);
        }
        changes();
        CHECK.end();
    }

    private static void due(int seed, String call, long got, long want) {
        CHECK.due("seed " + seed + ": " + call, got, want);
    }

    private static DegreeInMistakes college(Random chance) {
        DegreeInMistakes x = new DegreeInMistakes();
        int students = chance.nextInt(7);
        for (int s = 0; s < students; s++) {
            x.keep(0, 1, chance.nextInt(8), chance.nextInt(10));
            x.comes(0);
        }
        int topics = 1 + chance.nextInt(6);
        int sizes = chance.nextBoolean() ? 100 : 12;
        int errors = chance.nextInt(13);
        for (int e = 0; e < errors && students > 0; e++) {
            x.errs(chance.nextInt(students), chance.nextInt(topics), chance.nextInt(sizes),
                x.count(1) == 0 || chance.nextInt(3) == 0 ? 99 : chance.nextInt(x.count(1)));
        }
        x.weeks(1 + chance.nextInt(8));
        for (int i = 0; i < 3 && students > 0 && x.count(1) > 0; i++) {
            x.corrects(chance.nextInt(students), chance.nextInt(x.count(1)));
        }
        for (int i = 0; i < 3 && students > 0; i++) {
            x.sends(chance.nextInt(students));
        }
        return x;
    }

    private static void students(int seed, DegreeInMistakes x, Plain p, Random chance) {
        int[] votes = p.votes();
        for (int s = 0; s < p.students; s++) {
            int n = chance.nextInt(61);
            int v = 1 + chance.nextInt(chance.nextBoolean() ? 999 : 150);
            due(seed, "student(" + s + ", 3)", x.student(s, 3), p.marks(s));
            due(seed, "student(" + s + ", 4)", x.student(s, 4), p.rank(s));
            due(seed, "marksThen(" + s + ", " + n + ")", x.marksThen(s, n), p.on(n).marks(s));
            due(seed, "firstWhen(" + s + ")", x.firstWhen(s), p.firstWhen(s));
            due(seed, "degree(" + s + ", " + v + ")", x.degree(s, v), p.degree(s, v));
            due(seed, "next(" + s + ")", x.next(s), p.next(s));
            due(seed, "votes(" + s + ")", x.votes(s), votes[s]);
            due(seed, "slips(" + s + ")", x.slips(s), p.slips(s));
        }
    }

    private static void pairs(int seed, DegreeInMistakes x, Plain p) {
        for (int a = 0; a < p.students; a++) {
            for (int b = 0; b < p.students; b++) {
                String two = "(" + a + ", " + b + ")";
                due(seed, "cite" + two, x.cite(a, b), a == b ? -1 : p.cite(a, b));
                due(seed, "correct" + two, x.correct(a, b), a == b ? -1 : p.correct(a, b));
                due(seed, "two" + two, x.two(a, b), a == b ? -1 : p.two(a, b));
            }
        }
    }

    private static void errors(int seed, DegreeInMistakes x, Plain p, Random chance) {
        int[] who = new int[12];
        if (p.errors <= 8) {
            due(seed, "examiners(-1)", x.examiners(-1), p.examine(0, 0, who));
        }
        for (int e = 0; e < p.errors; e++) {
            due(seed, "error(" + e + ", 5)", x.error(e, 5), p.cited(e));
            due(seed, "error(" + e + ", 6)", x.error(e, 6), p.novelty(e));
            due(seed, "error(" + e + ", 7)", x.error(e, 7), p.marked(e));
            due(seed, "cited(" + e + ", 0)", x.cited(e, 0), p.inTheEnd(e));
            due(seed, "cited(" + e + ", 1)", x.cited(e, 1), p.depth(e));
            due(seed, "worth(" + e + ") in parts", Math.round(4096.0 * x.worth(e, 0) / x.worth(e, 1)),
                Math.round(4096 * p.worth(e)));
            int n = chance.nextInt(61);
            due(seed, "sizeThen(" + e + ", " + n + ")", x.sizeThen(e, n), p.on(n).size[e]);
            if (p.errors <= 8) {
                due(seed, "examiners(" + e + ")", x.examiners(e), who[e]);
            }
            whatIs(seed, x, p, e, chance);
        }
    }

    /** Tells how it would grow if who made it had another KIND, another FIGURE or both, with some of it skipped. */
    private static void whatIs(int seed, DegreeInMistakes x, Plain p, int e, Random chance) {
        Plain other = p.same();
        if (chance.nextBoolean()) {
            other.kind[p.by[e]] = chance.nextInt(8);
        }
        if (chance.nextBoolean()) {
            other.figure[p.by[e]] = chance.nextInt(10);
        }
        int[] row = new int[1 + chance.nextInt(6)];
        for (int n = 0; n < row.length; n++) {
            row[n] = chance.nextInt(3) == 0 ? -128 : other.on(n).size[e];
        }
        int kinds = 0;
        int figures = 0;
        for (int k = 0; k < 8; k++) {
            kinds |= p.grewSo(e, k, p.figure[p.by[e]], row, -128) ? 1 << k : 0;
        }
        for (int f = 0; f < 10; f++) {
            figures |= p.grewSo(e, p.kind[p.by[e]], f, row, -128) ? 1 << f : 0;
        }
        Check.fill(x, 0, 0, row);
        due(seed, "whatIs(0, " + e + ", 0)", x.whatIs(0, e, 0), kinds);
        due(seed, "whatIs(0, " + e + ", 1)", x.whatIs(0, e, 1), figures);
    }

    private static void all(int seed, DegreeInMistakes x, Plain p, Random chance) {
        int n = chance.nextInt(61);
        due(seed, "firstThen(" + n + ")", x.firstThen(n), p.on(n).first());
        due(seed, "votes(-1)", x.votes(-1), p.elected(p.votes()));
        due(seed, "count(6)", x.count(6), p.allMarks());
        int longest = 0;
        int dearest = -4;
        for (int e = 0; e < p.errors; e++) {
            longest = Math.max(longest, p.depth(e));
            dearest = dearest < 0 || p.worth(e) > p.worth(dearest) ? e : dearest;
        }
        due(seed, "nets(0)", x.nets(0), dearest);
        due(seed, "nets(1)", x.nets(1), longest);
        int z = chance.nextInt();
        int terms = 1 + chance.nextInt(20);
        for (int what = 0; what < 2; what++) {
            due(seed, "terms(" + terms + ", " + z + ", " + what + ")", x.terms(terms, z, what), p.terms(terms, z, what));
        }
        int[] row = new int[1 + chance.nextInt(40)];
        int wrong = chance.nextInt(3) == 0 ? -1 : chance.nextInt(row.length);
        for (int i = 0; i < row.length; i++) {
            row[i] = chance.nextInt(4) == 0 && i != wrong ? -32768 : p.on(i).allMarks() + (i == wrong ? 1 : 0);
        }
        Check.fill(x, 0, 1, row);
        due(seed, "judge(0)", x.judge(0), wrong < 0 ? -4 : wrong);
    }

    private static void netsAndTopics(int seed, DegreeInMistakes x, Plain p) {
        int longest = 0;
        int end = -4;
        int alone = 0;
        int together = 0;
        int[] times = new int[6];
        for (int e = 0; e < p.errors; e++) {
            end = p.depth(e) > longest ? e : end;
            longest = Math.max(longest, p.depth(e));
            alone |= p.cited(e) == 0 && p.citing[e] == 99 ? 1 << e : 0;
            together += p.size[e];
            times[p.topic[e]]++;
        }
        due(seed, "nets(2)", x.nets(2), end);
        due(seed, "nets(3)", x.nets(3), alone);
        int bits = 0;
        int most = -4;
        for (int topic = 5; topic >= 0; topic--) {
            bits |= times[topic] > 0 ? 1 << topic : 0;
            most = times[topic] > 0 && (most < 0 || times[topic] >= times[most]) ? topic : most;
            int[] far = p.farthest(topic);
            due(seed, "farthest(" + topic + ", 0)", x.farthest(topic, 0), far[0]);
            due(seed, "farthest(" + topic + ", 1)", x.farthest(topic, 1), far[1]);
        }
        due(seed, "topics(0)", x.topics(0), bits);
        due(seed, "topics(1)", x.topics(1), most);
        // A fraction in least terms is one that no number from 2 on divides above and below.
        long below = x.mean(1);
        due(seed, "mean, multiplied out", x.mean(0) * Math.max(1, p.errors), together * below);
        for (int n = 2; n <= below; n++) {
            due(seed, "mean, divided by " + n, x.mean(0) % n == 0 && below % n == 0 ? 1 : 0, 0);
        }
    }

    /** Some rows of ERRORS for order() and of SIZES for forged(), many of them so in part. */
    private static void rows(int seed, DegreeInMistakes x, Plain p, Random chance) {
        for (int i = 0; i < 8; i++) {
            int[] order = new int[chance.nextInt(9)];
            for (int place = 0; place < order.length; place++) {
                order[place] = chance.nextInt(12) == 0 ? chance.nextInt(16) - 2 : (place + chance.nextInt(3)) % 12;
            }
            Check.fill(x, 0, chance.nextInt(3), order);
            due(seed, "order(0)", x.order(0), p.order(order));
            int[] sizes = new int[chance.nextInt(p.errors + 2)];
            for (int e = 0; e < sizes.length; e++) {
                sizes[e] = p.size[e] + (chance.nextInt(12) == 0 ? 1 : 0);
            }
            Check.fill(x, 1, chance.nextInt(3), sizes);
            due(seed, "forged(1)", x.forged(1), p.forged(sizes));
        }
    }

    private static void odds(int seed, DegreeInMistakes x, Plain p, Random chance) {
        for (int s = 0; s < p.students; s++) {
            int v = chance.nextInt(chance.nextBoolean() ? 300 : 80);
            int t = 2 + chance.nextInt(19);
            long[] want = p.odds(s, v, t);
            due(seed, "odds(" + s + ", " + v + ", " + t + ", 0)", x.odds(s, v, t, 0), want[0]);
            due(seed, "odds(" + s + ", " + v + ", " + t + ", 1)", x.odds(s, v, t, 1), want[1]);
        }
    }

    /** What next, cite and correct promise comes true when it is done. */
    private static void changes() {
        for (int seed = 2000; seed < 2060; seed++) {
            DegreeInMistakes x = college(new Random(seed));
            Plain p = Plain.of(x);
            x.image();
            for (int s = 0; s < p.students; s++) {
                int code = x.next(s);
                if (code >= 0) {
                    x.errs(s, code / 100, code % 100, 99);
                    due(seed, "marks behind next", x.student(s, 3), p.more(s, code / 100, code % 100, 99).marks(s));
                    x.restore();
                }
                int n = 1 + seed % 60;
                int then = x.marksThen(s, n);
                x.weeks(n);
                due(seed, "marks behind weeks", x.student(s, 3), then);
                x.restore();
                due(seed, "marks restored", x.student(s, 3), p.marks(s));
            }
        }
    }
}
