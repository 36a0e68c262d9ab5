/** THE TEXT of a COLLEGE: each place at which it may end or be wrong, each reason for a FAULT of kind 2, its room. */
public final class EdgesOfTextTest {
    private static final Check CHECK = new Check("EdgesOfTextTest");
    /** One STATEMENT of each letter, all of which can be done. */
    private static final String ALL = "s35;s04;e014299;c100;d1;w07;";

    public static void main(String[] args) {
        oneStatementAtLeast();
        somethingLacks();
        wrongBytes();
        wrongLetters();
        aHundredBytes();
        kindOneFirst();
        numbersOutOfRange();
        numbersAtTheirEdges();
        noSuchOnes();
        sentDownOnes();
        corrections();
        weekAbove999();
        noRoom();
        oneBehindTheOther();
        noneOfItComes();
        itGoesOnFromNow();
        theTextStays();
        CHECK.end();
    }

    private static void due(String call, long got, long want) {
        CHECK.due(call, got, want);
    }

    /** The answer on a new object; with a FAULT nothing of it may have come. */
    private static void answers(String text, int want) {
        DegreeInMistakes x = new DegreeInMistakes();
        due("\"" + text + "\"", Check.tell(x, text), want);
        if (want < 0) {
            x.keep(7, 0, 0, 0);
            due("came of \"" + text + "\"", Seen.of(x).equals(Seen.of(new DegreeInMistakes())) ? 0 : 1, 0);
        }
    }

    private static void oneStatementAtLeast() {
        answers("", -1000);
        answers(";", -1000);
        answers("d", -1001);
        answers("w01;", 1);
        answers("w01;;", -1004);
    }

    private static void somethingLacks() {
        int statements = 0;
        for (int n = 1; n <= ALL.length(); n++) {
            boolean ends = ALL.charAt(n - 1) == ';';
            statements += ends ? 1 : 0;
            answers(ALL.substring(0, n), ends ? statements : -1000 - n);
        }
    }

    private static void wrongBytes() {
        char[] wrong = {0, '/', ':', ' ', 'E', 127, 128, 176, 187, 255};
        for (int place = 0; place < ALL.length(); place++) {
            for (char sign : wrong) {
                answers(ALL.substring(0, place) + sign + ALL.substring(place + 1), -1000 - place);
            }
            // A digit where ";" or a letter stands, ";" or a letter where another sign stands.
            char swapped = Character.isDigit(ALL.charAt(place)) ? ';' : '0';
            answers(ALL.substring(0, place) + swapped + ALL.substring(place + 1), -1000 - place);
            if (Character.isDigit(ALL.charAt(place)) || ALL.charAt(place) == ';') {
                answers(ALL.substring(0, place) + 's' + ALL.substring(place + 1), -1000 - place);
            }
        }
        // The first of several wrong ones is told, and what lacks at the end behind it is not.
        answers("s00;s?0;s?0", -1005);
    }

    private static void wrongLetters() {
        for (char letter = 0; letter < 256; letter++) {
            if ("secdw".indexOf(letter) < 0) {
                answers(letter + "00;", -1000);
            }
        }
    }

    private static String times(int n, String statement) {
        StringBuilder text = new StringBuilder();
        for (int i = 0; i < n; i++) {
            text.append(statement);
        }
        return text.toString();
    }

    private static void aHundredBytes() {
        answers(times(25, "w01;"), 25);
        answers(times(24, "w01;") + "w60;", 25);
        answers(times(24, "w01;") + "w00;", -2096);
        answers(times(24, "w01;") + "w01s", -1099);
        answers("s00;" + times(32, "d0;"), 33);
        answers("s00;" + times(31, "d0;") + "d1;", -2097);
        answers("s00;" + times(31, "d0;") + "d0", -1099);
        answers(times(24, "w01;") + "d0;w", -1100);
        answers(times(24, "w01;") + "w010", -1099);
    }

    private static void kindOneFirst() {
        answers("s80;?", -1004);
        answers("s80;s", -1005);
        answers("d0;w00;c0", -1009);
        answers("s00;s90;e000099", -1015);
    }

    private static void numbersOutOfRange() {
        answers("s80;", -2000);
        answers("s99;", -2000);
        answers("s00;e060099;", -2004);
        answers("s00;e090099;", -2004);
        answers("w00;", -2000);
        answers("w61;", -2000);
        answers("w99;", -2000);
    }

    private static void numbersAtTheirEdges() {
        answers("s00;s09;s70;s79;", 4);
        answers("s00;e000099;e050099;e009999;e059999;", 5);
        answers("w01;w60;", 2);
        DegreeInMistakes x = Check.of("s79;e059999;e000000;w60;");
        due("kind 7", x.student(0, 0), 7);
        due("figure 9", x.student(0, 1), 9);
        due("topic 5", x.error(0, 1), 5);
        due("size 99", x.error(0, 2), 99);
        due("citing none", x.error(0, 3), 99);
        due("citing 0", x.error(1, 3), 0);
        due("week 60", x.count(2), 60);
    }

    private static void noSuchOnes() {
        answers("d0;", -2000);
        answers("d9;", -2000);
        answers("s00;d1;", -2004);
        answers("e000099;", -2000);
        answers("s00;e100099;", -2004);
        answers("s00;e900099;", -2004);
        answers("s00;s00;c000;", -2008);
        answers("s00;s00;e000099;c101;", -2016);
        answers("s00;s00;e000099;c112;", -2016);
        answers("s00;s00;e000099;c199;", -2016);
        answers("s00;s00;e000099;c200;", -2016);
        for (int citing = 1; citing < 99; citing++) {
            answers("s00;e000099;e0000" + citing / 10 + citing % 10 + ";", -2012);
        }
        answers("s00;e000000;", -2004);
    }

    private static void sentDownOnes() {
        answers("s00;d0;e000099;", -2007);
        answers("s00;s00;e000099;d1;c100;", -2019);
        answers("s00;s00;e000099;d0;c100;", 5);
        answers("s00;s00;e000099;c100;e100099;", -2021);
        answers("s00;s00;e000099;c100;d1;e100099;", 6);
    }

    private static void corrections() {
        answers("s00;e000099;c000;", -2012);
        answers("s00;s00;s00;e000099;c100;c200;", -2025);
        answers("s00;s00;e000099;c100;d1;c100;", -2024);
        DegreeInMistakes x = Check.of("s00;s00;e000799;c100;");
        due("size", x.error(0, 2), 3);
        due("corrected", x.count(4), 1);
        due("in", x.count(3), 1);
    }

    private static void weekAbove999() {
        String weeks960 = times(16, "w60;");
        answers(weeks960 + "w39;", 17);
        answers(weeks960 + "w40;", -2064);
        answers(weeks960 + "w60;", -2064);
        answers(weeks960 + "w39;w01;", -2068);
    }

    private static void noRoom() {
        String six = times(6, "s00;");
        answers(six, 6);
        answers(six + "s00;", -2024);
        answers("s00;" + times(12, "e000099;"), 13);
        DegreeInMistakes x = Check.of("s00;" + times(11, "e000099;"));
        due("a thirteenth", Check.tell(x, "e000099;e000011;"), -2008);
        due("errors", x.count(1), 11);
        due("a twelfth", Check.tell(x, "e000099;"), 1);
        due("a thirteenth", Check.tell(x, "e000099;"), -2000);
        due("citing 11, no room either", Check.tell(x, "w01;e000011;"), -2004);
        due("errors", x.count(1), 12);
    }

    private static void oneBehindTheOther() {
        answers("e000099;s00;", -2000);
        answers("d0;s00;", -2000);
        answers("s00;e000000;e000099;", -2004);
        answers("s00;e000099;e000000;e000001;", 4);
        answers("s00;d0;d0;e000099;", 4);
        DegreeInMistakes x = Check.of("s20;e000099;w01;e000000;w01;d0;w01;");
        due("ripened by the first week alone", x.error(0, 2), 1);
        due("came behind it", x.error(1, 2), 0);
        due("week", x.count(2), 3);
        due("sent down", x.count(3), 0);
    }

    private static void noneOfItComes() {
        answers("s35;s04;e014299;c100;d1;w07;w00;", -2028);
        answers("s35;s04;e014299;c100;d1;w07;w0", -1030);
        answers("s35;s04;e014299;c100;d1;w07;q", -1028);
        DegreeInMistakes x = Check.of(ALL);
        String text = "w05;e030001;d0;e030001;";
        due("a fault behind changes", Check.tell(x, text), -2004);
        due("a fault behind more changes", Check.tell(x, "w05;e030000;d0;e030001;"), -2015);
        x.keep(7, 0, 0, 0);
        DegreeInMistakes y = Check.of(ALL);
        y.keep(7, 0, 0, 0);
        due("something has changed", Seen.of(x).equals(Seen.of(y)) ? 0 : 1, 0);
    }

    private static void itGoesOnFromNow() {
        DegreeInMistakes x = Check.of(ALL);
        due("more of it", Check.tell(x, "s00;e222200;c200;"), -2012);
        due("more of it", Check.tell(x, "s00;e222200;d0;w01;"), 4);
        due("students", x.count(0), 3);
        due("errors", x.count(1), 2);
        due("week", x.count(2), 8);
        due("the new one's size", x.error(1, 2), 23);
        due("cited", x.error(0, 5), 1);
        due("in", x.count(3), 6);
    }

    private static void theTextStays() {
        DegreeInMistakes x = new DegreeInMistakes();
        Check.write(x, 2, "w60;");
        for (int i = 1; i <= 16; i++) {
            due("the same text", x.college(2), 1);
        }
        due("a fault of it", x.college(2), -2000);
        String text = "w60;";
        for (int i = 0; i < text.length(); i++) {
            due("byte " + i, x.element(2, i), text.charAt(i));
        }
        due("no more of it", Check.thrownBy(x, 2, 4), 2);
    }
}
