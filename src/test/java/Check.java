/** What the tests share: it counts wrong answers, and writes texts and rows on shelves. */
final class Check {
    private int wrong;
    private final String name;

    Check(String name) {
        this.name = name;
    }

    void due(String call, long got, long want) {
        if (got != want) {
            wrong++;
            System.out.println(name + ": " + call + " answered " + got + ", due is " + want);
        }
    }

    /** Ends the test: with exit code 1, if an answer was wrong. */
    void end() {
        System.out.println(name + ": " + (wrong == 0 ? "all answers are as due" : wrong + " answers are not as due"));
        if (wrong != 0) {
            System.exit(1);
        }
    }

    /** 0 if element() answers, 1 if it throws IllegalArgumentException, 2 if IllegalStateException. */
    static int thrownBy(DegreeInMistakes x, int d, int i) {
        try {
            x.element(d, i);
        } catch (IllegalArgumentException e) {
            return 1;
        } catch (IllegalStateException e) {
            return 2;
        }
        return 0;
    }

    static void write(DegreeInMistakes x, int d, String text) {
        x.row(d, 0, text.length());
        for (int i = 0; i < text.length(); i++) {
            x.put(d, i, text.charAt(i));
        }
    }

    static void fill(DegreeInMistakes x, int d, int sort, int... elements) {
        x.row(d, sort, elements.length);
        for (int i = 0; i < elements.length; i++) {
            x.put(d, i, elements[i]);
        }
    }

    /** What college() answers to a text, written on shelf 7. */
    static int tell(DegreeInMistakes x, String text) {
        write(x, 7, text);
        return x.college(7);
    }

    /** A new object on which the texts have come, each without fault. */
    static DegreeInMistakes of(String... texts) {
        DegreeInMistakes x = new DegreeInMistakes();
        for (String text : texts) {
            if (tell(x, text) < 1) {
                throw new IllegalStateException("the test's own text has a fault: " + text);
            }
        }
        return x;
    }
}
