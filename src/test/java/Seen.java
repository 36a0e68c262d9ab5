/** All that an object tells of itself, as a text; it writes on the shelves, so the object is used up by it. */
final class Seen {
    private static final int PROBE = 0x12345678;

    private Seen() {
    }

    static String of(DegreeInMistakes x) {
        StringBuilder text = new StringBuilder();
        college(x, text);
        for (int d = 0; d < 8; d++) {
            shelf(x, d, text);
        }
        text.append("; image ").append(x.restore());
        college(x, text);
        return text.toString();
    }

    static void college(DegreeInMistakes x, StringBuilder text) {
        for (int what = 0; what < 7; what++) {
            text.append(' ').append(x.count(what));
        }
        int students = x.count(0);
        for (int s = 0; s < students; s++) {
            text.append("; student");
            for (int what = 0; what < 6; what++) {
                text.append(' ').append(x.student(s, what));
            }
        }
        int errors = x.count(1);
        for (int e = 0; e < errors; e++) {
            text.append("; error");
            for (int what = 0; what < 8; what++) {
                text.append(' ').append(x.error(e, what));
            }
        }
    }

    private static void shelf(DegreeInMistakes x, int d, StringBuilder text) {
        text.append("; shelf ").append(x.cost(d)).append(' ').append(x.toss(d));
        int length = 0;
        while (length < 100 && Check.thrownBy(x, d, length) == 0) {
            text.append(' ').append(x.element(d, length));
            length++;
        }
        if (length > 0) {
            // How much of it is kept tells the SORT.
            x.put(d, 0, PROBE);
            text.append(" sort by ").append(x.element(d, 0));
        }
    }
}
