/** What each promise asks for, worked out by hand: ordinary inputs, the named edges, wrong inputs. */
public final class PromiseTests {
    private static final int UNKNOWN = -1;
    private static final int BAD_VALUE = -2;
    private static final int FULL = -3;
    private static final int NOT_POSSIBLE = -4;
    private static final int NONE = -5;
    private static final int LOW = Integer.MIN_VALUE;
    private static final int HIGH = Integer.MAX_VALUE;

    private static int wrong = 0;
    private static int checked = 0;

    private static void due(String what, long want, long got) {
        checked++;
        if (want != got) {
            wrong++;
            System.out.println(what + ": answered " + got + ", due is " + want);
        }
    }

    /** A map with one country of weight 1 for each colour told, without borders. */
    private static BorderPaints map(int... colours) {
        BorderPaints x = new BorderPaints();
        for (int colour : colours) {
            x.addCountry(colour, 1);
        }
        return x;
    }

    private static void write(BorderPaints x, String text) {
        x.clearText();
        for (int i = 0; i < text.length(); i++) {
            x.type(text.charAt(i));
        }
    }

    private static void dueOfText(BorderPaints x, String text, int want) {
        write(x, text);
        due("readBorders of '" + text + "'", want, x.readBorders());
    }

    private static void constants() {
        due("UNKNOWN", UNKNOWN, BorderPaints.UNKNOWN);
        due("BAD_VALUE", BAD_VALUE, BorderPaints.BAD_VALUE);
        due("FULL", FULL, BorderPaints.FULL);
        due("NOT_POSSIBLE", NOT_POSSIBLE, BorderPaints.NOT_POSSIBLE);
        due("NONE", NONE, BorderPaints.NONE);
    }

    private static void p01NewObject() {
        BorderPaints x = new BorderPaints();
        for (int what = 0; what <= 11; what++) {
            due("1 count " + what, what == 9 ? 4 : 0, x.count(what));
        }
        for (int one = 0; one < 4; one++) {
            for (int other = 0; other < 4; other++) {
                due("1 forbidden " + one + other, one == other ? 1 : 0, x.forbidden(one, other));
            }
        }
        due("1 country", UNKNOWN, x.country(0, 0));
        due("1 undo", NONE, x.undo());
        due("1 restore", NONE, x.restore());
        due("1 repaints: the empty painting", 1, x.repaints());
        due("1 leastRepaint", 0, x.leastRepaint(0));
        due("1 fewestColours", 0, x.fewestColours());
        due("1 repaint", NONE, x.repaint());
        due("1 borderAt", NONE, x.borderAt(0));
        due("1 readBorders", -100, x.readBorders());
        due("1 clearText", 0, x.clearText());
    }

    private static void p02AddCountry() {
        BorderPaints x = new BorderPaints();
        int[] badColours = {-1, 4, LOW, HIGH};
        for (int bad : badColours) {
            due("2 colour", BAD_VALUE, x.addCountry(bad, 1));
        }
        int[] badWeights = {0, -1, 100, LOW, HIGH};
        for (int bad : badWeights) {
            due("2 weight", BAD_VALUE, x.addCountry(0, bad));
        }
        due("2 errors record nothing", 0, x.count(10));
        for (int i = 0; i < 8; i++) {
            due("2 number", i, x.addCountry(i % 4, i == 0 ? 99 : i));
        }
        due("2 full", FULL, x.addCountry(0, 1));
        due("2 bad before full", BAD_VALUE, x.addCountry(4, 1));
        due("2 colour kept", 3, x.country(7, 0));
        due("2 may have all", 15, x.country(7, 1));
        due("2 weight kept", 99, x.country(0, 2));
        due("2 not fixed", 0, x.country(7, 3));
        due("2 no borders", 0, x.country(7, 4));
        due("2 history", 4, x.count(10));
        x.undo();
        due("2 number after undo", 7, x.addCountry(1, 1));
        x.setBorder(6, 7, 1);
        x.join(7, 6);
        due("2 joined ones count too", FULL, x.addCountry(0, 1));
    }

    private static void p03Paint() {
        BorderPaints x = map(0, 1, 2);
        x.setBorder(0, 1, 5);
        x.setBorder(1, 2, 5);
        due("3 conflict", 3, x.paint(1, 0));
        due("3 conflicts gone", 0, x.paint(1, 3));
        due("3 same", NONE, x.paint(1, 3));
        due("3 unknown", UNKNOWN, x.paint(3, 9));
        due("3 unknown low", UNKNOWN, x.paint(LOW, 0));
        due("3 unknown high", UNKNOWN, x.paint(HIGH, 0));
        due("3 bad", BAD_VALUE, x.paint(1, 4));
        due("3 bad low", BAD_VALUE, x.paint(1, -1));
        x.allow(1, 8);
        due("3 wrong by what it may have", 2, x.paint(1, 1));
        x.fix(1, true);
        due("3 fixed before none", NOT_POSSIBLE, x.paint(1, 1));
        due("3 bad before fixed", BAD_VALUE, x.paint(1, 4));
        due("3 fixed", NOT_POSSIBLE, x.paint(1, 2));
        due("3 fixed keeps", 1, x.country(1, 0));
        x.undo();
        x.undo();
        due("3 undone", 3, x.country(1, 0));
    }

    private static void p04Allow() {
        BorderPaints x = map(0);
        due("4 first", 15, x.allow(0, 1));
        due("4 previous", 1, x.allow(0, 6));
        due("4 same", NONE, x.allow(0, 6));
        due("4 wrong now", 1, x.count(6));
        due("4 zero", BAD_VALUE, x.allow(0, 0));
        due("4 sixteen", BAD_VALUE, x.allow(0, 16));
        due("4 low", BAD_VALUE, x.allow(0, LOW));
        due("4 unknown first", UNKNOWN, x.allow(1, 0));
        x.fix(0, true);
        due("4 fixed may", 6, x.allow(0, 15));
        due("4 kept", 15, x.country(0, 1));
        x.undo();
        due("4 undone", 6, x.country(0, 1));
    }

    private static void p05Fix() {
        BorderPaints x = map(0, 1);
        due("5 none", NONE, x.fix(0, false));
        due("5 one", 1, x.fix(0, true));
        due("5 same", NONE, x.fix(0, true));
        due("5 two", 2, x.fix(1, true));
        due("5 one left", 1, x.fix(0, false));
        due("5 told", 0, x.country(0, 3));
        due("5 told", 1, x.country(1, 3));
        due("5 unknown", UNKNOWN, x.fix(2, true));
        due("5 unknown", UNKNOWN, x.fix(-1, false));
        x.undo();
        due("5 undone", 3, x.count(7));
    }

    private static void p06Forbid() {
        BorderPaints x = map(0, 1, 1);
        x.setBorder(0, 1, 1);
        x.setBorder(0, 2, 1);
        due("6 new pair, no conflict", 0, x.forbid(1, 2, true));
        due("6 new pair, gone again", 0, x.forbid(2, 1, false));
        due("6 gone in both orders", 0, x.forbidden(1, 2) + x.forbidden(2, 1));
        due("6 and the other way", 0, x.forbid(2, 1, true) + x.forbid(1, 2, false));
        due("6 gone in both orders", 0, x.forbidden(1, 2) + x.forbidden(2, 1));
        due("6 forbid", 2, x.forbid(1, 0, true));
        due("6 both orders", NONE, x.forbid(0, 1, true));
        due("6 told", 1, x.forbidden(0, 1));
        x.setBorder(1, 2, 1);
        due("6 three", 3, x.count(4));
        due("6 with itself", 2, x.forbid(1, 1, false));
        due("6 with itself again", NONE, x.forbid(1, 1, false));
        due("6 allowed again", 0, x.forbid(0, 1, false));
        int[] bad = {-1, 4, LOW, HIGH};
        for (int colour : bad) {
            due("6 bad", BAD_VALUE, x.forbid(colour, 0, true));
            due("6 bad", BAD_VALUE, x.forbid(0, colour, true));
        }
        x.undo();
        due("6 undone", 1, x.forbidden(1, 0));
    }

    private static void p07SetBorder() {
        BorderPaints x = map(0, 1, 2);
        due("7 none so already", NONE, x.setBorder(0, 1, 0));
        due("7 new", 0, x.setBorder(0, 1, 99));
        due("7 other order", 99, x.setBorder(1, 0, 1));
        due("7 same", NONE, x.setBorder(0, 1, 1));
        due("7 gone", 1, x.setBorder(0, 1, 0));
        due("7 gone", 0, x.count(2));
        due("7 too long", BAD_VALUE, x.setBorder(0, 1, 100));
        due("7 negative", BAD_VALUE, x.setBorder(0, 1, -1));
        due("7 itself", BAD_VALUE, x.setBorder(0, 0, 1));
        due("7 unknown", UNKNOWN, x.setBorder(3, 0, 1));
        due("7 unknown before itself", UNKNOWN, x.setBorder(3, 3, 100));
        due("7 unknown other", UNKNOWN, x.setBorder(0, -1, 1));
        x.undo();
        due("7 undone", 1, x.border(0, 1));
    }

    private static void p08ReadBorders() {
        BorderPaints x = map(0, 1, 2);
        dueOfText(x, "0-1", 1);
        due("8 length not told", 1, x.border(0, 1));
        dueOfText(x, "2-1:7,0-2:99,1-0:10", 3);
        due("8 kept its place", 1, x.borderAt(0));
        due("8 second", 12, x.borderAt(1));
        due("8 third", 2, x.borderAt(2));
        due("8 lengths", 7 + 99 + 10, x.count(3));
        due("8 the text stays", 19, x.count(11));
        due("8 again, nothing new", 3, x.readBorders());
        dueOfText(x, "0-1:5,1-0:6", 2);
        due("8 the later one stands", 6, x.border(0, 1));
        x.undo();
        due("8 one act", 10, x.border(0, 1));
        p08Faults(x);
        p08Errors(x);
    }

    private static void p08Faults(BorderPaints x) {
        String[] texts = {
            "", "x", "-", "0", "01", "0-", "0--", "0-x", "0-1,", "0-1,,", "0-1-", "0-12", "0-1:", "0-1:0",
            "0-1:05", "0-1:x", "0-1:123", "0-1:12,", "0-1:12,0-2:", "0-1 ", " 0-1", "0-1;", "0-1:5:", "0-1:5-",
            "0-1:5,9", "0\u06611", "0-\u0661", "\uff10-1", "0-1:\u0665", "0\u012d1"};
        int[] faults = {
            0, 0, 0, 1, 1, 2, 2, 2, 4, 4, 3, 3, 4, 4,
            4, 4, 6, 7, 11, 3, 0, 3, 5, 5,
            7, 1, 2, 0, 4, 1};
        for (int i = 0; i < texts.length; i++) {
            dueOfText(x, texts[i], -100 - faults[i]);
        }
        StringBuilder longest = new StringBuilder();
        for (int i = 0; i < 15; i++) {
            longest.append("0-1,");
        }
        dueOfText(x, longest.toString(), -160);
        dueOfText(x, longest.substring(0, 59), 15);
        dueOfText(x, longest.substring(0, 57) + "1:9", -157);
        dueOfText(x, longest.substring(0, 52) + "0-1:9", 14);
        due("8 last of fourteen", 9, x.border(0, 1));
        dueOfText(x, longest.substring(0, 56) + "0-1:", -160);
        dueOfText(x, longest.substring(0, 52) + "0-1:98:9", -158);
    }

    private static void p08Errors(BorderPaints x) {
        int states = x.count(10);
        dueOfText(x, "0-1:44,8-0", UNKNOWN);
        dueOfText(x, "0-1:44,0-9", UNKNOWN);
        dueOfText(x, "0-1:44,1-1", BAD_VALUE);
        dueOfText(x, "1-1,3-0", UNKNOWN);
        dueOfText(x, "3-3", UNKNOWN);
        dueOfText(x, "1-1,3-0,", -108);
        due("8 errors change nothing", 9, x.border(0, 1));
        due("8 errors record nothing", states, x.count(10));
        dueOfText(x, "1-1,0-1", BAD_VALUE);
        dueOfText(x, "0-1:9,0-2", 2);
        x.undo();
        dueOfText(x, "0-1:9", 1);
        dueOfText(x, "0-1,8-0", UNKNOWN);
        dueOfText(x, "0-1:9", 1);
        BorderPaints y = map(0, 1, 2);
        write(y, "0-1");
        y.undo();
        y.undo();
        y.undo();
        due("8 unknown when undone", UNKNOWN, y.readBorders());
        BorderPaints z = map(0, 1);
        write(z, "0-1");
        z.readBorders();
        z.readBorders();
        due("8 the same again is an act", 4, z.count(10));
    }

    private static void p09Join() {
        BorderPaints x = map(0, 1, 2, 3, 0, 1);
        x.setBorder(0, 5, 3);
        x.setBorder(0, 2, 60);
        x.setBorder(1, 2, 40);
        x.setBorder(0, 4, 4);
        x.setBorder(3, 4, 1);
        x.setBorder(0, 1, 9);
        x.setBorder(0, 3, 5);
        due("9 neighbours", 4, x.join(0, 1));
        int[] order = {12, 34, 15, 14, 13};
        for (int i = 0; i < order.length; i++) {
            due("9 order " + i, order[i], x.borderAt(i));
        }
        due("9 no more", NONE, x.borderAt(5));
        due("9 length capped", 99, x.border(1, 2));
        due("9 lengths taken over", 4, x.border(1, 4));
        due("9 weight", 2, x.country(1, 2));
        due("9 colour of the other one", 1, x.country(1, 0));
        due("9 gone", UNKNOWN, x.country(0, 0));
        due("9 there", 62, x.count(0));
        due("9 ever", 6, x.count(1));
        due("9 again", UNKNOWN, x.join(0, 1));
        x.undo();
        due("9 undone", 63, x.count(0));
        due("9 undone order", 5, x.borderAt(0));
        p09Errors();
    }

    private static void p09Errors() {
        BorderPaints x = new BorderPaints();
        x.addCountry(0, 98);
        x.addCountry(1, 2);
        due("9 no border", NOT_POSSIBLE, x.join(0, 1));
        due("9 itself", BAD_VALUE, x.join(1, 1));
        due("9 unknown", UNKNOWN, x.join(2, 2));
        due("9 unknown", UNKNOWN, x.join(0, LOW));
        due("9 unknown", UNKNOWN, x.join(HIGH, 0));
        x.setBorder(0, 1, 1);
        x.fix(0, true);
        due("9 fixed", NOT_POSSIBLE, x.join(0, 1));
        due("9 other fixed", NOT_POSSIBLE, x.join(1, 0));
        x.fix(0, false);
        x.allow(0, 3);
        x.allow(1, 12);
        due("9 no colour for both", NOT_POSSIBLE, x.join(0, 1));
        x.allow(1, 6);
        due("9 nothing changed", 1, x.border(0, 1));
        due("9 joined", 0, x.join(0, 1));
        due("9 colours of both", 2, x.country(1, 1));
        due("9 weight capped", 99, x.country(1, 2));
        due("9 border between both gone", 0, x.count(2));
    }

    private static void p10Give() {
        BorderPaints x = map(0, 1, 2, 3);
        x.setBorder(0, 1, 10);
        x.setBorder(0, 2, 95);
        due("10 shorter", 7, x.give(0, 1, 2, 3));
        due("10 longer", 98, x.border(0, 2));
        due("10 more is lost", 2, x.give(0, 1, 2, 5));
        due("10 capped", 99, x.border(0, 2));
        due("10 too much", NOT_POSSIBLE, x.give(0, 1, 2, 3));
        due("10 no border", NOT_POSSIBLE, x.give(0, 1, 3, 1));
        due("10 no first border", NOT_POSSIBLE, x.give(0, 3, 1, 1));
        due("10 gone", 0, x.give(0, 1, 2, 2));
        due("10 gone", 2, x.borderAt(0));
        due("10 one left", 1, x.count(2));
        x.undo();
        due("10 undone", 2, x.border(1, 0));
        due("10 unknown", UNKNOWN, x.give(4, 4, 4, 0));
        due("10 unknown", UNKNOWN, x.give(0, 4, 2, 1));
        due("10 unknown", UNKNOWN, x.give(0, 1, -1, 1));
        due("10 same", BAD_VALUE, x.give(0, 0, 1, 1));
        due("10 same", BAD_VALUE, x.give(0, 1, 0, 1));
        due("10 same", BAD_VALUE, x.give(0, 1, 1, 1));
        x.setBorder(0, 1, 99);
        due("10 the longest", 0, x.give(0, 1, 2, 99));
        x.setBorder(0, 1, 2);
        due("10 length", BAD_VALUE, x.give(0, 1, 2, 0));
        due("10 length", BAD_VALUE, x.give(0, 1, 2, 100));
        due("10 bad before not possible", BAD_VALUE, x.give(0, 1, 3, LOW));
    }

    private static void p11Repaint() {
        BorderPaints x = new BorderPaints();
        x.addCountry(0, 5);
        x.addCountry(0, 3);
        x.addCountry(1, 4);
        due("11 good already", NONE, x.repaint());
        x.setBorder(0, 1, 1);
        x.setBorder(1, 2, 1);
        due("11 cost", 3, x.repaint());
        due("11 lowest colour that goes", 2, x.country(1, 0));
        due("11 good then", NONE, x.repaint());
        x.undo();
        due("11 undone", 0, x.country(1, 0));
        x.fix(1, true);
        due("11 around the fixed one", 5, x.repaint());
        due("11 the other changed", 1, x.country(0, 0));
        x.allow(0, 1);
        int states = x.count(10);
        due("11 no repaint", NOT_POSSIBLE, x.repaint());
        due("11 nothing recorded", states, x.count(10));
        BorderPaints y = map(0);
        y.fix(0, true);
        y.allow(0, 2);
        due("11 a fixed one that is wrong", NOT_POSSIBLE, y.repaint());
    }

    private static void p12Exchange() {
        BorderPaints x = map(0, 1, 0, 1, 2);
        x.setBorder(0, 1, 1);
        x.setBorder(1, 2, 1);
        x.setBorder(2, 4, 1);
        x.setBorder(4, 3, 1);
        due("12 members", 3, x.exchange(1, 0));
        int[] colours = {1, 0, 1, 1, 2};
        for (int i = 0; i < 5; i++) {
            due("12 colour " + i, colours[i], x.country(i, 0));
        }
        x.undo();
        due("12 undone", 1, x.country(1, 0));
        due("12 own", BAD_VALUE, x.exchange(1, 1));
        due("12 bad", BAD_VALUE, x.exchange(1, 4));
        due("12 bad", BAD_VALUE, x.exchange(1, -1));
        due("12 unknown", UNKNOWN, x.exchange(5, 4));
        x.fix(2, true);
        due("12 fixed in the chain", NOT_POSSIBLE, x.exchange(0, 1));
        due("12 alone", 1, x.exchange(3, 0));
        x.fix(2, false);
        x.fix(0, true);
        due("12 fixed at the start of the chain", NOT_POSSIBLE, x.exchange(0, 1));
        x.fix(0, false);
        x.fix(2, false);
        x.allow(2, 13);
        due("12 may not have", NOT_POSSIBLE, x.exchange(0, 1));
        due("12 nothing changed", 0, x.country(0, 0));
        x.allow(2, 2);
        due("12 its own need not be allowed", 3, x.exchange(0, 1));
    }

    private static void p13Type() {
        BorderPaints x = new BorderPaints();
        for (int i = 1; i <= 60; i++) {
            due("13 length", i, x.type((char) (i == 1 ? 0xffff : i)));
        }
        due("13 full", FULL, x.type('0'));
        due("13 still", 60, x.count(11));
        due("13 no act", 0, x.count(10));
        x.clearText();
        due("13 again", 1, x.type('0'));
        due("13 old ones are gone", -101, x.readBorders());
    }

    private static void p14ClearText() {
        BorderPaints x = new BorderPaints();
        due("14 empty", 0, x.clearText());
        x.type('0');
        x.type('-');
        due("14 two", 2, x.clearText());
        due("14 emptied", 0, x.count(11));
        due("14 no act", 0, x.count(10));
    }

    private static void p15Undo() {
        BorderPaints x = map(0, 1, 2, 3, 0, 1);
        x.type('0');
        for (int left = 3; left >= 0; left--) {
            due("15 left", left, x.undo());
        }
        due("15 empty", NONE, x.undo());
        due("15 the oldest two were dropped", 3, x.count(0));
        due("15 ever", 2, x.count(1));
        due("15 the text is no state", 1, x.count(11));
        x.addCountry(0, 1);
        x.forbid(0, 1, true);
        x.undo();
        due("15 forbidden pairs too", 4, x.count(9));
        due("15 the country stays", 3, x.count(1));
    }

    private static void p16Keep() {
        BorderPaints x = new BorderPaints();
        due("16 nothing there", 0, x.keep());
        x.addCountry(0, 1);
        due("16 one there", 1, x.keep());
        due("16 no act", 1, x.count(10));
        x.addCountry(1, 1);
        x.setBorder(0, 1, 1);
        x.join(0, 1);
        due("16 joined ones do not count", 1, x.keep());
        x.undo();
        x.undo();
        x.undo();
        due("16 undo leaves the snapshot", 1, x.restore());
        due("16 in place of the one before", 2, x.count(0));
    }

    private static void p17Restore() {
        BorderPaints x = map(0, 1);
        due("17 none", NONE, x.restore());
        x.setBorder(0, 1, 7);
        x.keep();
        x.setBorder(0, 1, 8);
        x.paint(0, 3);
        x.forbid(2, 3, true);
        x.type('z');
        due("17 there", 2, x.restore());
        due("17 border", 7, x.border(0, 1));
        due("17 colour", 0, x.country(0, 0));
        due("17 forbidden", 0, x.forbidden(2, 3));
        due("17 not the text", 1, x.count(11));
        due("17 an act", 4, x.count(10));
        x.undo();
        due("17 undone", 8, x.border(0, 1));
        x.paint(1, 2);
        due("17 the snapshot stays", 2, x.restore());
        due("17 colour", 1, x.country(1, 0));
        due("17 also the same state", 2, x.restore());
        x.undo();
        x.undo();
        due("17 both were acts", 2, x.country(1, 0));
    }

    private static void p18Country() {
        BorderPaints x = new BorderPaints();
        x.addCountry(0, 5);
        x.addCountry(1, 6);
        x.addCountry(0, 7);
        x.setBorder(0, 1, 20);
        x.setBorder(2, 0, 30);
        x.setBorder(1, 2, 40);
        int[] first = {0, 15, 5, 0, 6, 50, 1, 1, 12};
        int[] second = {1, 15, 6, 0, 5, 60, 0, 0, 14};
        for (int what = 0; what <= 8; what++) {
            due("18 country 0, " + what, first[what], x.country(0, what));
            due("18 country 1, " + what, second[what], x.country(1, what));
        }
        due("18 not the colours of both neighbours", 12, x.country(2, 8));
        x.setBorder(1, 2, 0);
        due("18 no length of a border that is gone", 30, x.country(2, 5));
        x.setBorder(1, 2, 40);
        x.fix(1, true);
        x.allow(1, 5);
        due("18 fixed", 1, x.country(1, 3));
        due("18 may have", 5, x.country(1, 1));
        due("18 wrong without conflict", 1, x.country(1, 7));
        due("18 no conflicts", 0, x.country(1, 6));
        due("18 could have, also if it is fixed", 4, x.country(1, 8));
        x.forbid(0, 2, true);
        due("18 could have none", 0, x.country(1, 8));
        due("18 bad", BAD_VALUE, x.country(0, 9));
        due("18 bad", BAD_VALUE, x.country(0, -1));
        due("18 unknown first", UNKNOWN, x.country(3, 9));
    }

    private static void p19Border() {
        BorderPaints x = map(0, 1, 2);
        x.setBorder(2, 0, 17);
        due("19 length", 17, x.border(0, 2));
        due("19 other order", 17, x.border(2, 0));
        due("19 none", 0, x.border(0, 1));
        due("19 same", BAD_VALUE, x.border(1, 1));
        due("19 unknown", UNKNOWN, x.border(3, 3));
        due("19 unknown", UNKNOWN, x.border(0, 8));
        due("19 unknown", UNKNOWN, x.border(LOW, 0));
    }

    private static void p20BorderAt() {
        BorderPaints x = map(0, 1, 2, 3, 0, 1, 2, 3);
        x.setBorder(7, 6, 1);
        x.setBorder(2, 0, 1);
        x.setBorder(3, 1, 1);
        x.setBorder(7, 6, 2);
        due("20 first", 67, x.borderAt(0));
        due("20 second", 2, x.borderAt(1));
        due("20 third", 13, x.borderAt(2));
        x.setBorder(6, 7, 0);
        x.setBorder(6, 7, 2);
        due("20 moved up", 2, x.borderAt(0));
        due("20 comes anew", 67, x.borderAt(2));
        due("20 none", NONE, x.borderAt(3));
        due("20 none", NONE, x.borderAt(HIGH));
        due("20 negative", BAD_VALUE, x.borderAt(-1));
        due("20 negative", BAD_VALUE, x.borderAt(LOW));
        for (int i = 0; i < 8; i++) {
            for (int k = i + 1; k < 8; k++) {
                x.setBorder(k, i, 9);
            }
        }
        due("20 all of them", 28, x.count(2));
        due("20 last of all", 57, x.borderAt(27));
        due("20 no more", NONE, x.borderAt(28));
    }

    private static void p21Forbidden() {
        BorderPaints x = new BorderPaints();
        x.forbid(3, 1, true);
        x.forbid(2, 2, false);
        due("21 both orders", 2, x.forbidden(1, 3) + x.forbidden(3, 1));
        due("21 itself", 0, x.forbidden(2, 2));
        due("21 still", 1, x.forbidden(1, 1));
        int[] bad = {-1, 4, LOW, HIGH};
        for (int colour : bad) {
            due("21 bad", BAD_VALUE, x.forbidden(colour, 0));
            due("21 bad", BAD_VALUE, x.forbidden(0, colour));
        }
    }

    private static void p22LeastRepaint() {
        BorderPaints x = new BorderPaints();
        x.addCountry(0, 4);
        x.addCountry(0, 4);
        x.addCountry(0, 9);
        x.setBorder(0, 1, 1);
        due("22 cost", 4, x.leastRepaint(0));
        due("22 the lower colour at the first country", 2, x.leastRepaint(1));
        x.setBorder(1, 2, 1);
        due("22 the middle one", 2, x.leastRepaint(1));
        x.setBorder(0, 2, 1);
        due("22 two of three", 8, x.leastRepaint(0));
        due("22 the light ones", 3, x.leastRepaint(1));
        due("22 told, not made", 0, x.country(0, 0));
        due("22 bad", BAD_VALUE, x.leastRepaint(2));
        due("22 bad", BAD_VALUE, x.leastRepaint(-1));
        x.allow(0, 1);
        x.allow(1, 1);
        due("22 none", NOT_POSSIBLE, x.leastRepaint(0));
        due("22 none", NOT_POSSIBLE, x.leastRepaint(1));
        due("22 bad first", BAD_VALUE, x.leastRepaint(HIGH));
    }

    private static void p23Repainted() {
        BorderPaints x = map(3, 3, 3);
        x.setBorder(0, 1, 1);
        x.setBorder(1, 2, 1);
        due("23 stays", 3, x.repainted(0));
        due("23 changes", 0, x.repainted(1));
        due("23 stays", 3, x.repainted(2));
        x.allow(1, 8);
        due("23 others change", 0, x.repainted(0));
        due("23 this one stays", 3, x.repainted(1));
        due("23 unknown", UNKNOWN, x.repainted(3));
        x.fix(0, true);
        due("23 none", NOT_POSSIBLE, x.repainted(2));
        due("23 unknown first", UNKNOWN, x.repainted(-1));
        BorderPaints y = map(3, 3);
        y.setBorder(0, 1, 1);
        due("23 lowest colour at the first one", 0, y.repainted(0));
        due("23 so the second one stays", 3, y.repainted(1));
    }

    private static void p24WouldCost() {
        BorderPaints x = new BorderPaints();
        x.addCountry(1, 7);
        x.addCountry(1, 8);
        x.addCountry(2, 9);
        due("24 conflict", 7, x.wouldCost(0, 1));
        due("24 other order", 7, x.wouldCost(1, 0));
        due("24 no conflict", 0, x.wouldCost(0, 2));
        due("24 told, not made", 0, x.count(2));
        due("24 same", BAD_VALUE, x.wouldCost(1, 1));
        due("24 unknown", UNKNOWN, x.wouldCost(3, 3));
        due("24 unknown", UNKNOWN, x.wouldCost(0, LOW));
        x.fix(0, true);
        due("24 fixed", 8, x.wouldCost(0, 1));
        x.fix(1, true);
        due("24 both fixed", NOT_POSSIBLE, x.wouldCost(0, 1));
        due("24 the map is as it was", 0, x.leastRepaint(0));
        x.fix(1, false);
        x.setBorder(0, 1, 5);
        due("24 there is one already", 8, x.wouldCost(0, 1));
        x.forbid(1, 2, true);
        due("24 costs more", 17, x.wouldCost(0, 2));
    }

    private static void p25Repaints() {
        BorderPaints x = map(0, 0, 0, 0);
        due("25 free", 256, x.repaints());
        x.setBorder(0, 1, 1);
        x.setBorder(1, 2, 1);
        x.setBorder(0, 2, 1);
        due("25 triangle", 24 * 4, x.repaints());
        x.fix(0, true);
        due("25 fixed", 6 * 4, x.repaints());
        x.allow(3, 5);
        due("25 may have", 6 * 2, x.repaints());
        x.forbid(0, 1, true);
        due("25 pair", 2 * 2, x.repaints());
        x.allow(0, 2);
        due("25 fixed and wrong", 0, x.repaints());
        due("25 most", 65536, map(0, 1, 2, 3, 0, 1, 2, 3).repaints());
    }

    private static void p26Freedom() {
        BorderPaints x = map(0, 1, 2);
        due("26 all", 15, x.freedom(0));
        x.setBorder(0, 1, 1);
        x.fix(1, true);
        due("26 not the neighbour's", 13, x.freedom(0));
        due("26 fixed", 2, x.freedom(1));
        x.setBorder(0, 2, 1);
        x.allow(2, 4);
        due("26 two steps", 9, x.freedom(0));
        x.allow(0, 4);
        due("26 none", 0, x.freedom(1));
        due("26 unknown", UNKNOWN, x.freedom(3));
        due("26 unknown", UNKNOWN, x.freedom(HIGH));
    }

    private static void p27FewestColours() {
        BorderPaints x = map(0, 1, 2, 3, 3);
        due("27 one", 1, x.fewestColours());
        x.setBorder(0, 1, 1);
        due("27 two", 2, x.fewestColours());
        x.setBorder(1, 2, 1);
        x.setBorder(0, 2, 1);
        due("27 three", 3, x.fewestColours());
        x.setBorder(0, 3, 1);
        x.setBorder(1, 3, 1);
        x.setBorder(2, 3, 1);
        due("27 four", 4, x.fewestColours());
        x.setBorder(4, 0, 1);
        x.setBorder(4, 1, 1);
        x.setBorder(4, 2, 1);
        x.setBorder(4, 3, 1);
        due("27 five do not go", NOT_POSSIBLE, x.fewestColours());
        BorderPaints y = map(1, 2);
        y.fix(0, true);
        y.fix(1, true);
        due("27 fixed ones use theirs", 2, y.fewestColours());
        BorderPaints z = map(0, 0);
        z.setBorder(0, 1, 1);
        z.forbid(2, 2, false);
        due("27 one that goes with itself", 1, z.fewestColours());
    }

    private static void p28Chain() {
        BorderPaints x = map(0, 1, 0, 1, 2, 0, 0, 1);
        x.setBorder(0, 1, 1);
        x.setBorder(1, 2, 1);
        x.setBorder(2, 4, 1);
        x.setBorder(4, 3, 1);
        x.setBorder(2, 5, 1);
        due("28 chain, over a conflict too", 1 + 2 + 4 + 32, x.chain(0, 1));
        due("28 from the other end", 1 + 2 + 4 + 32, x.chain(5, 1));
        due("28 other colours", 4 + 16 + 32, x.chain(4, 0));
        due("28 alone", 64, x.chain(6, 1));
        due("28 none of that colour", 16, x.chain(4, 3));
        due("28 a neighbour of neither colour", 2, x.chain(1, 2));
        due("28 without the first one", 128, x.chain(7, 2));
        due("28 own", BAD_VALUE, x.chain(0, 0));
        due("28 bad", BAD_VALUE, x.chain(0, 4));
        due("28 bad", BAD_VALUE, x.chain(0, LOW));
        due("28 unknown", UNKNOWN, x.chain(8, 4));
        BorderPaints y = map(0, 1, 0, 1, 0, 1, 0, 1);
        int[] way = {3, 7, 0, 5, 2, 6, 1, 4};
        for (int i = 0; i + 1 < 8; i++) {
            y.setBorder(way[i], way[i + 1], 1);
        }
        due("28 the longest way", 255, y.chain(3, 0));
    }

    private static void p29Count() {
        BorderPaints x = map(0, 0, 3);
        x.setBorder(0, 1, 20);
        x.setBorder(1, 2, 30);
        x.fix(2, true);
        x.type('a');
        int[] want = {7, 3, 2, 50, 1, 20, 3, 4, 2, 4, 4, 1};
        for (int what = 0; what <= 11; what++) {
            due("29 count " + what, want[what], x.count(what));
        }
        x.join(0, 1);
        x.allow(2, 1);
        x.forbid(0, 3, true);
        int[] then = {6, 3, 1, 30, 1, 30, 6, 4, 2, 5, 4, 1};
        for (int what = 0; what <= 11; what++) {
            due("29 then count " + what, then[what], x.count(what));
        }
        due("29 different colours", 4, map(0, 1, 2, 3, 3).count(8));
        due("29 only one of colour 0", 2, map(0, 1, 1).count(8));
        int[] bad = {-1, 12, LOW, HIGH};
        for (int what : bad) {
            due("29 bad", BAD_VALUE, x.count(what));
        }
        due("29 few states", 1, map(0).count(10));
    }

    /** All that is told of the state. */
    private static String told(BorderPaints x) {
        StringBuilder s = new StringBuilder();
        for (int what = 0; what <= 9; what++) {
            s.append(x.count(what)).append(' ');
        }
        for (int c = 0; c < 8; c++) {
            for (int what = 0; what <= 8; what++) {
                s.append(x.country(c, what)).append(' ');
            }
        }
        for (int place = 0; place < 28; place++) {
            s.append(x.borderAt(place)).append(' ');
        }
        for (int i = 0; i < 16; i++) {
            s.append(x.forbidden(i / 4, i % 4));
        }
        return s.toString();
    }

    private static int act(BorderPaints x, int number) {
        switch (number) {
            case 0: return x.addCountry(2, 2);
            case 1: return x.paint(0, 3);
            case 2: return x.allow(0, 7);
            case 3: return x.fix(0, true);
            case 4: return x.forbid(0, 1, true);
            case 5: return x.setBorder(0, 2, 4);
            case 6: return x.readBorders();
            case 7: return x.join(0, 1);
            case 8: return x.give(1, 0, 2, 2);
            case 9: return x.repaint();
            case 10: return x.exchange(2, 2);
            default: return x.restore();
        }
    }

    /** Calls that are no acts here: errors, NONE, and what is not described as an act. */
    private static int noAct(BorderPaints x, int number) {
        switch (number) {
            case 0: return x.addCountry(4, 1);
            case 1: return x.paint(0, 0);
            case 2: return x.allow(0, 15);
            case 3: return x.fix(0, false);
            case 4: return x.forbid(0, 0, true);
            case 5: return x.setBorder(0, 1, 5);
            case 6: return x.readBorders();
            case 7: return x.join(0, 2);
            case 8: return x.give(1, 0, 2, 6);
            case 9: return x.exchange(2, 1);
            case 10: return x.restore();
            case 11: return x.leastRepaint(1) + x.repainted(0) + x.wouldCost(0, 2) + x.freedom(0);
            case 12: return x.repaints() + x.fewestColours() + x.chain(0, 1);
            case 13: return x.type('0') + x.clearText();
            default: return x.keep();
        }
    }

    /** History: an act records just the state before it, all else records nothing. */
    private static void history() {
        for (int number = 0; number < 12 + 15; number++) {
            BorderPaints x = map(0, 0, 1);
            x.setBorder(0, 1, 5);
            String earlier = told(x);
            x.setBorder(1, 2, 5);
            String before = told(x);
            if (number < 12) {
                x.keep();
                write(x, "0-1:7");
                due("act " + number + " is possible", 1, act(x, number) >= 0 ? 1 : 0);
                due("act " + number + " changes", number == 11 ? 0 : 1, told(x).equals(before) ? 0 : 1);
                x.undo();
            } else {
                noAct(x, number - 12);
            }
            due("history " + number + ": as it was", 1, told(x).equals(before) ? 1 : 0);
            x.undo();
            due("history " + number + ": one state earlier", 1, told(x).equals(earlier) ? 1 : 0);
        }
    }

    public static void main(String[] args) {
        constants();
        p01NewObject();
        p02AddCountry();
        p03Paint();
        p04Allow();
        p05Fix();
        p06Forbid();
        p07SetBorder();
        p08ReadBorders();
        p09Join();
        p10Give();
        p11Repaint();
        p12Exchange();
        p13Type();
        p14ClearText();
        p15Undo();
        p16Keep();
        p17Restore();
        p18Country();
        p19Border();
        p20BorderAt();
        p21Forbidden();
        p22LeastRepaint();
        p23Repainted();
        p24WouldCost();
        p25Repaints();
        p26Freedom();
        p27FewestColours();
        p28Chain();
        p29Count();
        history();
        System.out.println(checked + " answers looked at, " + wrong + " not as due");
        if (wrong != 0) {
            System.exit(1);
        }
    }
}
