import java.util.ArrayList;
import java.util.Collections;
import java.util.List;
import java.util.Random;
import java.util.function.ToLongFunction;

/**
 * The calls that only tell change nothing, neither the college nor a shelf nor the image, and what one of them answers
 * does not depend on which others were called ahead of it.
 */
public final class TellingsTest {
    private static final Check CHECK = new Check("TellingsTest");
    private static final int BYTES = 0;
    private static final int SHORTS = 1;
    private static final int INTS = 2;
    private static final int ONE = 3;
    private static final List<String> NAMES = new ArrayList<>();
    private static final List<ToLongFunction<DegreeInMistakes>> TELLINGS = new ArrayList<>();

    public static void main(String[] args) {
        collegeAsTold();
        weeksOn();
        nextErrors();
        netsAndVotes();
        rowsAndOdds();
        shelves();
        nothingChanges();
        anyOrder();
        CHECK.end();
    }

    private static void tell(String name, ToLongFunction<DegreeInMistakes> telling) {
        NAMES.add(name);
        TELLINGS.add(telling);
    }

    private static void collegeAsTold() {
        for (int what = 0; what < 8; what++) {
            int asked = what;
            tell("student(0, " + what + ")", x -> x.student(0, asked));
            tell("error(1, " + what + ")", x -> x.error(1, asked));
            tell("count(" + what + ")", x -> x.count(asked));
        }
    }

    private static void weeksOn() {
        for (int n = 0; n <= 60; n += 20) {
            int on = n;
            tell("marksThen(1, " + n + ")", x -> x.marksThen(1, on));
            tell("sizeThen(1, " + n + ")", x -> x.sizeThen(1, on));
            tell("firstThen(" + n + ")", x -> x.firstThen(on));
        }
        tell("firstWhen(0)", x -> x.firstWhen(0));
        tell("firstWhen(3)", x -> x.firstWhen(3));
        tell("degree(0, 100)", x -> x.degree(0, 100));
        tell("degree(0, 999)", x -> x.degree(0, 999));
    }

    private static void nextErrors() {
        tell("next(0)", x -> x.next(0));
        tell("next(1)", x -> x.next(1));
        tell("farthest(2, 0)", x -> x.farthest(2, 0));
        tell("farthest(2, 1)", x -> x.farthest(2, 1));
        tell("cite(0, 1)", x -> x.cite(0, 1));
        tell("cite(3, 0)", x -> x.cite(3, 0));
        tell("correct(3, 1)", x -> x.correct(3, 1));
        tell("correct(0, 3)", x -> x.correct(0, 3));
    }

    private static void netsAndVotes() {
        for (int part = 0; part < 2; part++) {
            int asked = part;
            tell("cited(1, " + part + ")", x -> x.cited(1, asked));
            tell("worth(0, " + part + ")", x -> x.worth(0, asked));
            tell("topics(" + part + ")", x -> x.topics(asked));
        }
        for (int i = -1; i < 4; i++) {
            int asked = i;
            tell("nets(" + i + ")", x -> x.nets(asked));
            tell("votes(" + i + ")", x -> x.votes(asked));
            tell("slips(" + i + ")", x -> x.slips(asked));
            tell("examiners(" + i + ")", x -> x.examiners(asked));
        }
    }

    private static void rowsAndOdds() {
        for (int d : new int[] {BYTES, SHORTS, INTS}) {
            tell("order(" + d + ")", x -> x.order(d));
            tell("forged(" + d + ")", x -> x.forged(d));
            tell("judge(" + d + ")", x -> x.judge(d));
        }
        for (int part = 0; part < 2; part++) {
            int asked = part;
            tell("whatIs(2, 1, " + part + ")", x -> x.whatIs(INTS, 1, asked));
            tell("odds(0, 10, 7, " + part + ")", x -> x.odds(0, 10, 7, asked));
            tell("odds(1, 30, 2, " + part + ")", x -> x.odds(1, 30, 2, asked));
            tell("mean(" + part + ")", x -> x.mean(asked));
            tell("terms(20, -7, " + part + ")", x -> x.terms(20, -7, asked));
        }
        tell("two(0, 1)", x -> x.two(0, 1));
        tell("two(1, 0)", x -> x.two(1, 0));
    }

    private static void shelves() {
        tell("element(1, 0)", x -> x.element(SHORTS, 0));
        tell("element(2, 2)", x -> x.element(INTS, 2));
        tell("cost(3)", x -> x.cost(ONE));
        tell("toss(3)", x -> x.toss(ONE));
    }

    private static void nothingChanges() {
        String untouched = Seen.of(RefusalsTest.rich());
        for (int i = 0; i < TELLINGS.size(); i++) {
            DegreeInMistakes x = RefusalsTest.rich();
            TELLINGS.get(i).applyAsLong(x);
            CHECK.due(NAMES.get(i) + ", has it changed anything?", Seen.of(x).equals(untouched) ? 0 : 1, 0);
        }
    }

    private static void anyOrder() {
        long[] alone = new long[TELLINGS.size()];
        for (int i = 0; i < alone.length; i++) {
            alone[i] = TELLINGS.get(i).applyAsLong(RefusalsTest.rich());
        }
        List<Integer> order = new ArrayList<>();
        for (int i = 0; i < alone.length; i++) {
            order.add(i);
        }
        for (int seed = 0; seed < 100; seed++) {
            Collections.shuffle(order, new Random(seed));
            DegreeInMistakes x = RefusalsTest.rich();
            for (int i : order) {
                CHECK.due("order " + seed + ": " + NAMES.get(i), TELLINGS.get(i).applyAsLong(x), alone[i]);
            }
        }
    }
}
