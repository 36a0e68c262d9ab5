import java.util.Random;
import java.util.regex.Matcher;
import java.util.regex.Pattern;

/**
 * Promise 2 by chance: what THE TEXT does is what the calls do that its STATEMENTS stand for, one behind the other, and
 * its form is as a pattern tells it.
 */
public final class TextByChanceTest {
    private static final Check CHECK = new Check("TextByChanceTest");
    private static final Pattern FORM = Pattern.compile("(s[0-9]{2};|e[0-9]{6};|c[0-9]{3};|d[0-9];|w[0-9]{2};)+");
    private static final String SIGNS = "secdw0123456789;\0 \u00ff:/S";
    private static final int COLLEGES = 600;
    private static final int TEXTS = 2;

    public static void main(String[] args) {
        int[] met = new int[3];
        for (int seed = 0; seed < COLLEGES; seed++) {
            Random chance = new Random(seed);
            DegreeInMistakes told = new DegreeInMistakes();
            DegreeInMistakes called = new DegreeInMistakes();
            for (int i = 0; i < TEXTS; i++) {
                String text = text(chance, i > 0);
                int due = due(called, text);
                CHECK.due("seed " + seed + ": " + text, Check.tell(told, text), due);
                met[due > 0 ? 0 : due > -2000 ? 1 : 2]++;
                if (due <= 0) {
                    break;
                }
            }
            if (!seen(told).equals(seen(called))) {
                CHECK.due("seed " + seed + ": it is as by calls", 0, 1);
            }
        }
        for (int kind = 0; kind < met.length; kind++) {
            CHECK.due("texts with fault of kind " + kind + " are met often", met[kind] >= COLLEGES / 10 ? 1 : 0, 1);
        }
        CHECK.end();
    }

    /** A text of STATEMENTS that mostly can be done, some with a sign wrong, more or less. */
    private static String text(Random chance, boolean hasCollege) {
        StringBuilder text = new StringBuilder();
        int count = 1 + chance.nextInt(9);
        for (int i = 0; i < count; i++) {
            text.append(hasCollege || i > 2 ? statement(chance) : student(chance));
        }
        if (chance.nextInt(3) == 0) {
            int place = chance.nextInt(text.length());
            char sign = SIGNS.charAt(chance.nextInt(SIGNS.length()));
            switch (chance.nextInt(4)) {
                case 0: text.setCharAt(place, sign); break;
                case 1: text.insert(place, sign); break;
                case 2: text.deleteCharAt(place); break;
                default: text.setLength(place); break;
            }
        }
        return text.toString();
    }

    private static String student(Random chance) {
        return "s" + chance.nextInt(chance.nextInt(30) == 0 ? 10 : 8) + chance.nextInt(10) + ";";
    }

    private static String statement(Random chance) {
        int s = chance.nextInt(chance.nextInt(30) == 0 ? 10 : 3);
        switch (chance.nextInt(10)) {
            case 0: return student(chance);
            case 1: return "c" + s + twoDigits(chance.nextInt(4)) + ";";
            case 2: return "d" + s + ";";
            case 3: case 4: return "w" + twoDigits(chance.nextInt(chance.nextInt(20) == 0 ? 100 : 61)) + ";";
            default: return "e" + s + chance.nextInt(chance.nextInt(30) == 0 ? 10 : 6) + twoDigits(chance.nextInt(100))
                + twoDigits(chance.nextInt(3) == 0 ? chance.nextInt(4) : 99) + ";";
        }
    }

    private static String twoDigits(int n) {
        return "" + n / 10 + n % 10;
    }

    /** What the text is due, done by calls on the other object (up to the STATEMENT that can't be done). */
    private static int due(DegreeInMistakes called, String text) {
        Matcher all = FORM.matcher(text);
        if (!all.matches()) {
            return -1000 - firstWrong(text);
        }
        called.image();
        int place = 0;
        int count = 0;
        while (place < text.length()) {
            int end = text.indexOf(';', place);
            if (call(called, text.charAt(place), text.substring(place + 1, end)) < 0) {
                called.restore();
                return -2000 - place;
            }
            place = end + 1;
            count++;
        }
        return count;
    }

    private static int firstWrong(String text) {
        for (int length = 1; length <= text.length(); length++) {
            Matcher part = FORM.matcher(text.substring(0, length));
            if (!part.matches() && !part.hitEnd()) {
                return length - 1;
            }
        }
        return text.length();
    }

    private static int call(DegreeInMistakes x, char letter, String digits) {
        int s = digits.charAt(0) - '0';
        switch (letter) {
            case 's':
                return x.keep(0, 1, s, digits.charAt(1) - '0') < 0 ? -1 : x.comes(0);
            case 'e':
                return x.errs(s, digits.charAt(1) - '0', Integer.parseInt(digits.substring(2, 4)),
                    Integer.parseInt(digits.substring(4)));
            case 'c':
                return x.corrects(s, Integer.parseInt(digits.substring(1)));
            case 'd':
                return x.sends(s);
            default:
                return x.weeks(Integer.parseInt(digits));
        }
    }

    private static String seen(DegreeInMistakes x) {
        StringBuilder text = new StringBuilder();
        Seen.college(x, text);
        return text.toString();
    }
}
