import java.util.Arrays;
import java.util.function.Supplier;

/** What the tests of the boundary cases share: named tests, answers that are due, small maps. */
abstract class Checks {
    static final int UNKNOWN = -1;
    static final int BAD_VALUE = -2;
    static final int FULL = -3;
    static final int NOT_POSSIBLE = -4;
    static final int NONE = -5;
    static final int LOW = Integer.MIN_VALUE;
    static final int HIGH = Integer.MAX_VALUE;

    /** No country ever has these numbers; the last bits of some are those of a country. */
    static final int[] NO_NUMBERS = {
        -1, -2, -8, -31, -32, -256, 8, 9, 16, 31, 32, 33, 39, 64, 256, 65536, LOW, LOW + 1, HIGH};

    /** Outside 0 to 3; the last bits of some are those of a colour. */
    static final int[] NO_COLOURS = {-1, -4, -32, -256, 4, 5, 7, 8, 32, 33, 64, 256, 65536, LOW, LOW + 3, HIGH};

    private static String sentence = "";
    private static int tests = 0;
    private static int failedTests = 0;
    private static int answers = 0;
    private static boolean isFailing = false;

    /** One test for one sentence of the document. */
    static void test(String itsSentence, Runnable steps) {
        sentence = itsSentence;
        isFailing = false;
        tests++;
        try {
            steps.run();
        } catch (RuntimeException | StackOverflowError thrown) {
            fail(thrown.toString());
        }
        failedTests += isFailing ? 1 : 0;
    }

    private static void fail(String what) {
        isFailing = true;
        System.out.println(sentence + " -- " + what);
    }

    private static String linesOfTest() {
        StringBuilder lines = new StringBuilder("line");
        for (StackTraceElement e : new Throwable().getStackTrace()) {
            if (!e.getClassName().startsWith("Checks")) {
                lines.append(' ').append(e.getLineNumber());
                if (e.getMethodName().startsWith("lambda")) {
                    break;
                }
            }
        }
        return lines.toString();
    }

    static void due(int want, int got) {
        answers++;
        if (want != got) {
            fail(linesOfTest() + ": answered " + got + ", due is " + want);
        }
    }

    static void dueRow(int[] want, int[] got) {
        answers += got.length;
        if (!Arrays.equals(want, got)) {
            fail(linesOfTest() + ": told " + Arrays.toString(got)
                + ", due is " + Arrays.toString(want));
        }
    }

    /** Ends the program: with 1 if a test has failed. */
    static void end() {
        System.out.println(tests + " tests with " + answers + " answers, " + failedTests + " tests failed");
        System.exit(failedTests == 0 ? 0 : 1);
    }

    static int[] row(int... numbers) {
        return numbers;
    }

    static int[] rowAndMore(int[] numbers, int... more) {
        int[] all = Arrays.copyOf(numbers, numbers.length + more.length);
        System.arraycopy(more, 0, all, numbers.length, more.length);
        return all;
    }

    /** A map with one country of weight 1 for each colour told, without borders. */
    static BorderPaints map(int... colours) {
        BorderPaints x = new BorderPaints();
        for (int colour : colours) {
            x.addCountry(colour, 1);
        }
        return x;
    }

    /** The countries 0 (colour 0), 1 (colour 1) and 2 (colour 2); 3 was joined, 4 to 7 have never been. */
    static BorderPaints three() {
        BorderPaints x = map(0, 1, 2, 0);
        x.setBorder(3, 1, 1);
        x.join(3, 1);
        return x;
    }

    /** Numbers of no country in three(). */
    static final int[] NOT_IN_THREE = rowAndMore(NO_NUMBERS, 3, 4, 5, 6, 7);

    static void write(BorderPaints x, String text) {
        x.clearText();
        for (int i = 0; i < text.length(); i++) {
            x.type(text.charAt(i));
        }
    }

    /** What readBorders answers for a text where the countries 0 to 2 are there. */
    static int reading(String text) {
        BorderPaints x = map(0, 1, 2);
        write(x, text);
        return x.readBorders();
    }

    static int[] counts(BorderPaints x) {
        int[] all = new int[12];
        for (int what = 0; what < all.length; what++) {
            all[what] = x.count(what);
        }
        return all;
    }

    static int[] country(BorderPaints x, int country) {
        int[] all = new int[9];
        for (int what = 0; what < all.length; what++) {
            all[what] = x.country(country, what);
        }
        return all;
    }

    static int[] colours(BorderPaints x) {
        int[] all = new int[x.count(1)];
        for (int country = 0; country < all.length; country++) {
            all[country] = x.country(country, 0);
        }
        return all;
    }

    /** The borders in their order, each as 1000 * its countries + its length, as far as the order goes. */
    static int[] borders(BorderPaints x) {
        int[] all = new int[28];
        int size = 0;
        while (size < all.length && x.borderAt(size) >= 0) {
            int pair = x.borderAt(size);
            all[size] = 1000 * pair + x.border(pair / 10, pair % 10);
            size++;
        }
        return Arrays.copyOf(all, size);
    }

    static int[] forbiddenPairs(BorderPaints x) {
        int[] all = new int[16];
        for (int i = 0; i < all.length; i++) {
            all[i] = x.forbidden(i / 4, i % 4);
        }
        return all;
    }

    /** Everything that is told of a state, and the lengths of the history and of the text. */
    static int[] told(BorderPaints x) {
        int[] all = rowAndMore(counts(x), forbiddenPairs(x));
        all = rowAndMore(all, borders(x));
        for (int number = 0; number < 8; number++) {
            all = rowAndMore(all, country(x, number));
        }
        return all;
    }

    /** Asks the call of a map and of its like that is not asked: afterwards nothing may tell them apart. */
    static void dueWithoutChange(int want, Supplier<BorderPaints> make, Call call) {
        due(want, call.of(make.get()));
        for (int undos = 0; undos <= 5; undos++) {
            BorderPaints asked = make.get();
            BorderPaints like = make.get();
            call.of(asked);
            for (int i = 0; i < undos; i++) {
                due(like.undo(), asked.undo());
            }
            dueRow(told(like), told(asked));
        }
        BorderPaints asked = make.get();
        BorderPaints like = make.get();
        call.of(asked);
        due(like.restore(), asked.restore());
        dueRow(told(like), told(asked));
        dueSameText(make, call);
    }

    private static void dueSameText(Supplier<BorderPaints> make, Call call) {
        // What is typed behind the text shows where it stood, also if it has a fault by itself.
        for (String more : new String[] {"", "1", "-1", ":1", ",0-1"}) {
            BorderPaints asked = make.get();
            BorderPaints like = make.get();
            call.of(asked);
            for (int i = 0; i < more.length(); i++) {
                due(like.type(more.charAt(i)), asked.type(more.charAt(i)));
            }
            due(like.readBorders(), asked.readBorders());
            dueRow(told(like), told(asked));
            due(like.clearText(), asked.clearText());
        }
    }

    /** One call of a map. */
    interface Call {
        int of(BorderPaints x);
    }
}
