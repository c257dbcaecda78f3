import java.util.regex.Matcher;
import java.util.regex.Pattern;

/** Every text of up to six characters of a few, read where the countries 0 and 1 are there, against an expression. */
public final class EveryText {
    private static final String SIGNS = "012-:,x";
    private static final int LONGEST = 6;
    private static final int TEXTS_OF_ONE_MAP = 25;
    private static final Pattern BORDER = Pattern.compile("([0-9])-([0-9])(?::([1-9][0-9]?))?");
    private static final Pattern ROW = Pattern.compile(BORDER.pattern() + "(?:," + BORDER.pattern() + ")*");

    private static BorderPaints map = null;
    private static int texts = 0;
    private static int wrong = 0;

    /** The first index up to which no row begins like the text, its length if it is too short, or -1. */
    private static int fault(String text) {
        for (int end = 0; end <= text.length(); end++) {
            Matcher m = ROW.matcher(text.substring(0, end));
            boolean isRow = m.matches();
            if (!isRow && !m.hitEnd()) {
                return end - 1;
            }
            if (end == text.length()) {
                return isRow ? -1 : end;
            }
        }
        return -1;
    }

    private static boolean isThere(String country) {
        return country.equals("0") || country.equals("1");
    }

    /** What is due: the answer, and the length of the border between 0 and 1 then if it is no error. */
    private static int[] dueOf(String text) {
        int fault = fault(text);
        if (fault >= 0) {
            return new int[] {-100 - fault, 0};
        }
        int found = 0;
        int length = 0;
        boolean isUnknown = false;
        boolean isSame = false;
        for (Matcher m = BORDER.matcher(text); m.find(); found++) {
            isUnknown |= !isThere(m.group(1)) || !isThere(m.group(2));
            isSame |= m.group(1).equals(m.group(2));
            length = m.group(3) == null ? 1 : Integer.parseInt(m.group(3));
        }
        return new int[] {isUnknown ? -1 : isSame ? -2 : found, length};
    }

    private static void read(String text) {
        if (texts % TEXTS_OF_ONE_MAP == 0) {
            map = new BorderPaints();
            map.addCountry(0, 1);
            map.addCountry(1, 1);
        }
        texts++;
        map.clearText();
        for (int i = 0; i < text.length(); i++) {
            map.type(text.charAt(i));
        }
        int[] want = dueOf(text);
        int before = map.border(0, 1);
        int got = map.readBorders();
        int length = want[0] < 0 ? before : want[1];
        if (got != want[0] || map.border(0, 1) != length) {
            wrong++;
            System.out.println("'" + text + "' answered " + got + " with length " + map.border(0, 1)
                + ", due is " + want[0] + " with length " + length);
        }
    }

    private static void readAllThatBeginWith(String text) {
        read(text);
        for (int i = 0; i < SIGNS.length() && text.length() < LONGEST; i++) {
            readAllThatBeginWith(text + SIGNS.charAt(i));
        }
    }

    public static void main(String[] args) {
        readAllThatBeginWith("");
        // Behind a border, where six characters do not reach.
        for (String before : new String[] {"0-1,", "1-0:2,", "0-1:10,"}) {
            readAllThatBeginWith(before);
            for (int i = 0; i < SIGNS.length(); i++) {
                read(before + "0-1" + SIGNS.charAt(i));
                read(before + "0-1:" + SIGNS.charAt(i));
                read(before + "0-1:2" + SIGNS.charAt(i));
                read(before + "0-1:21" + SIGNS.charAt(i));
            }
        }
        System.out.println(texts + " texts read, " + wrong + " not as due");
        if (wrong != 0) {
            System.exit(1);
        }
    }
}
