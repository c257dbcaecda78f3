import java.util.function.Supplier;

/** A call that returns an error or NONE changes nothing: the state, the text, the history and the snapshot. */
public final class RefusedCalls extends Checks {

    /**
     * Four countries (4 was joined to 3), of which 3 is fixed and has a conflict with 0. The history is full, the
     * snapshot has two countries without borders, the text two borders.
     */
    private static BorderPaints scene() {
        BorderPaints x = new BorderPaints();
        x.addCountry(0, 5);
        x.addCountry(1, 99);
        x.keep();
        x.addCountry(2, 7);
        x.addCountry(0, 1);
        x.addCountry(3, 4);
        x.setBorder(0, 1, 10);
        x.setBorder(3, 4, 6);
        x.setBorder(1, 2, 99);
        x.setBorder(0, 3, 3);
        x.join(4, 3);
        x.paint(2, 3);
        x.allow(1, 6);
        x.fix(3, true);
        x.forbid(0, 3, true);
        write(x, "0-1:5,1-2");
        return x;
    }

    private static void dueScene(BorderPaints x) {
        dueRow(row(15, 5, 3, 112, 1, 3, 9, 8, 3, 5, 4, 9), counts(x));
        dueRow(row(0, 15, 5, 0, 10, 13, 1, 1, 4), country(x, 0));
        dueRow(row(1, 6, 99, 0, 5, 109, 0, 0, 6), country(x, 1));
        dueRow(row(3, 15, 7, 0, 2, 99, 0, 0, 13), country(x, 2));
        dueRow(row(0, 15, 5, 1, 1, 3, 1, 1, 6), country(x, 3));
        for (int number = 4; number < 8; number++) {
            due(UNKNOWN, x.country(number, 0));
        }
        dueRow(row(1010, 12099, 3003), borders(x));
        dueRow(row(1, 0, 0, 1, 0, 1, 0, 0, 0, 0, 1, 0, 1, 0, 0, 1), forbiddenPairs(x));
        due(5, x.leastRepaint(0));
        due(2, x.repainted(0));
        due(6, x.repaints());
    }

    private static void dueHistory(BorderPaints x) {
        due(3, x.undo());
        dueRow(row(15, 5, 3, 112, 1, 3, 9, 8, 3, 4, 3, 9), counts(x));
        due(0, x.forbidden(0, 3));
        due(2, x.undo());
        dueRow(row(15, 5, 3, 112, 1, 3, 9, 0, 3, 4, 2, 9), counts(x));
        due(6, x.country(1, 1));
        due(1, x.undo());
        due(15, x.country(1, 1));
        due(3, x.country(2, 0));
        due(0, x.undo());
        due(2, x.country(2, 0));
        dueRow(row(15, 5, 3, 112, 1, 3, 9, 0, 3, 4, 0, 9), counts(x));
        due(NONE, x.undo());
    }

    private static void dueSnapshot(BorderPaints x) {
        due(2, x.restore());
        dueRow(row(3, 2, 0, 0, 0, 0, 0, 0, 2, 4, 4, 9), counts(x));
        dueRow(row(0, 15, 5, 0, 0, 0, 0, 0, 15), country(x, 0));
        dueRow(row(1, 15, 99, 0, 0, 0, 0, 0, 15), country(x, 1));
        due(3, x.undo());
        due(15, x.count(0));
    }

    private static void dueText(BorderPaints x) {
        due(2, x.readBorders());
        dueRow(row(1005, 12001, 3003), borders(x));
        due(10, x.type(':'));
        due(-110, x.readBorders());
        due(10, x.clearText());
    }

    /** The call is refused with this answer, and the scene, its history, snapshot and text are as they were. */
    private static void refused(String call, int want, Call refused) {
        test(call + " changes nothing", () -> {
            BorderPaints x = scene();
            due(want, refused.of(x));
            dueScene(x);
            dueHistory(x);
            BorderPaints y = scene();
            due(want, refused.of(y));
            due(want, refused.of(y));
            dueSnapshot(y);
            BorderPaints z = scene();
            due(want, refused.of(z));
            dueText(z);
        });
    }

    private static void refusedElsewhere(String call, int want, Supplier<BorderPaints> make, Call refused) {
        test(call + " changes nothing", () -> dueWithoutChange(want, make, refused));
    }

    private static void theSceneItself() {
        test("the scene is as it was worked out", () -> {
            dueScene(scene());
            dueHistory(scene());
            dueSnapshot(scene());
            dueText(scene());
        });
    }

    private static void countries() {
        refused("addCountry of a bad colour", BAD_VALUE, x -> x.addCountry(4, 1));
        refused("addCountry of a negative colour", BAD_VALUE, x -> x.addCountry(-1, 1));
        refused("addCountry without weight", BAD_VALUE, x -> x.addCountry(0, 0));
        refused("addCountry of too much weight", BAD_VALUE, x -> x.addCountry(0, 100));
        refused("paint of a joined country", UNKNOWN, x -> x.paint(4, 0));
        refused("paint of a country that has never been", UNKNOWN, x -> x.paint(5, 0));
        refused("paint of country -1", UNKNOWN, x -> x.paint(-1, 0));
        refused("paint with a bad colour", BAD_VALUE, x -> x.paint(0, 4));
        refused("paint with a negative colour", BAD_VALUE, x -> x.paint(0, -1));
        refused("paint of a fixed country", NOT_POSSIBLE, x -> x.paint(3, 1));
        refused("paint of a fixed country with its colour", NOT_POSSIBLE, x -> x.paint(3, 0));
        refused("paint with its colour", NONE, x -> x.paint(1, 1));
        refused("allow of a joined country", UNKNOWN, x -> x.allow(4, 1));
        refused("allow of no colours", BAD_VALUE, x -> x.allow(0, 0));
        refused("allow of 16", BAD_VALUE, x -> x.allow(0, 16));
        refused("allow of what it may have", NONE, x -> x.allow(1, 6));
        refused("fix of a joined country", UNKNOWN, x -> x.fix(4, true));
        refused("fix of one that is fixed", NONE, x -> x.fix(3, true));
        refused("fix, no more, of one that is not", NONE, x -> x.fix(0, false));
        refused("forbid of a bad colour", BAD_VALUE, x -> x.forbid(4, 0, true));
        refused("forbid with a bad other one", BAD_VALUE, x -> x.forbid(0, -1, false));
        refused("forbid of a forbidden pair", NONE, x -> x.forbid(3, 0, true));
        refused("forbid, no more, of a pair that is not", NONE, x -> x.forbid(1, 2, false));
    }

    private static void borders() {
        refused("setBorder of a joined country", UNKNOWN, x -> x.setBorder(4, 0, 1));
        refused("setBorder with a joined country", UNKNOWN, x -> x.setBorder(0, 4, 1));
        refused("setBorder with itself", BAD_VALUE, x -> x.setBorder(0, 0, 1));
        refused("setBorder of length 100", BAD_VALUE, x -> x.setBorder(0, 1, 100));
        refused("setBorder of length -1", BAD_VALUE, x -> x.setBorder(0, 1, -1));
        refused("setBorder of the length that it has", NONE, x -> x.setBorder(1, 0, 10));
        refused("setBorder of none where there is none", NONE, x -> x.setBorder(0, 2, 0));
        refused("join of a joined country", UNKNOWN, x -> x.join(4, 3));
        refused("join to a joined country", UNKNOWN, x -> x.join(0, 4));
        refused("join to itself", BAD_VALUE, x -> x.join(0, 0));
        refused("join without a border", NOT_POSSIBLE, x -> x.join(0, 2));
        refused("join of a fixed country", NOT_POSSIBLE, x -> x.join(3, 0));
        refused("join to a fixed country", NOT_POSSIBLE, x -> x.join(0, 3));
        refused("give by a joined country", UNKNOWN, x -> x.give(4, 0, 1, 1));
        refused("give from a joined country", UNKNOWN, x -> x.give(0, 4, 1, 1));
        refused("give to a joined country", UNKNOWN, x -> x.give(0, 1, 4, 1));
        refused("give from itself", BAD_VALUE, x -> x.give(0, 0, 1, 1));
        refused("give to itself", BAD_VALUE, x -> x.give(0, 1, 0, 1));
        refused("give from one to the same", BAD_VALUE, x -> x.give(0, 1, 1, 1));
        refused("give of length 0", BAD_VALUE, x -> x.give(0, 1, 3, 0));
        refused("give of length 100", BAD_VALUE, x -> x.give(0, 1, 3, 100));
        refused("give without the first border", NOT_POSSIBLE, x -> x.give(0, 2, 1, 1));
        refused("give without the second border", NOT_POSSIBLE, x -> x.give(0, 1, 2, 1));
        refused("give of more than the border", NOT_POSSIBLE, x -> x.give(0, 3, 1, 4));
    }

    private static void repainting() {
        refused("exchange of a joined country", UNKNOWN, x -> x.exchange(4, 0));
        refused("exchange with a bad colour", BAD_VALUE, x -> x.exchange(0, 4));
        refused("exchange with its own colour", BAD_VALUE, x -> x.exchange(0, 0));
        refused("exchange of a chain with a fixed country", NOT_POSSIBLE, x -> x.exchange(0, 1));
        refused("exchange where one may not have the other", NOT_POSSIBLE, x -> x.exchange(2, 1));
    }

    private static void whatIsTold() {
        refused("country of a joined one", UNKNOWN, x -> x.country(4, 0));
        refused("country with a bad what", BAD_VALUE, x -> x.country(0, 9));
        refused("border with a joined one", UNKNOWN, x -> x.border(0, 4));
        refused("border with itself", BAD_VALUE, x -> x.border(0, 0));
        refused("borderAt a negative place", BAD_VALUE, x -> x.borderAt(-1));
        refused("borderAt a place behind all", NONE, x -> x.borderAt(3));
        refused("forbidden of a bad colour", BAD_VALUE, x -> x.forbidden(0, 4));
        refused("leastRepaint with a bad what", BAD_VALUE, x -> x.leastRepaint(2));
        refused("repainted of a joined one", UNKNOWN, x -> x.repainted(4));
        refused("wouldCost with a joined one", UNKNOWN, x -> x.wouldCost(0, 4));
        refused("wouldCost with itself", BAD_VALUE, x -> x.wouldCost(0, 0));
        refused("freedom of a joined one", UNKNOWN, x -> x.freedom(4));
        refused("chain of a joined one", UNKNOWN, x -> x.chain(4, 0));
        refused("chain with its own colour", BAD_VALUE, x -> x.chain(0, 0));
        refused("count with a bad what", BAD_VALUE, x -> x.count(12));
    }

    /** What is told without an error is no act either. */
    private static void whatIsToldWell() {
        refused("country, what it could have,", 4, x -> x.country(0, 8));
        refused("border", 10, x -> x.border(1, 0));
        refused("borderAt", 12, x -> x.borderAt(1));
        refused("forbidden", 1, x -> x.forbidden(3, 0));
        refused("leastRepaint, its cost,", 5, x -> x.leastRepaint(0));
        refused("leastRepaint, what it changes,", 1, x -> x.leastRepaint(1));
        refused("repainted", 2, x -> x.repainted(0));
        refused("wouldCost without more", 5, x -> x.wouldCost(0, 2));
        refused("wouldCost with more", 12, x -> x.wouldCost(2, 3));
        refused("repaints", 6, x -> x.repaints());
        refused("freedom", 6, x -> x.freedom(0));
        refused("fewestColours", 3, x -> x.fewestColours());
        refused("chain", 11, x -> x.chain(0, 1));
        refused("count", 112, x -> x.count(3));
    }

    private static BorderPaints sceneWithText(String text) {
        BorderPaints x = scene();
        write(x, text);
        return x;
    }

    private static void readings() {
        String[] texts = {
            "", "0", "0-", "0-1:", "0-1:5,", "0-1:5,1-2:0", "0-1:5,1-2:123", "x", "0-1:5 ", "0-1:5,1-2,",
            "0-1:5,1-4", "0-1:5,9-1", "4-3,0-1:5", "0-1:5,2-2", "0-0,0-1:5", "0-1:5,3-3:7,1-2"};
        int[] answers = {
            -100, -101, -102, -104, -106, -110, -112, -100, -105, -110,
            UNKNOWN, UNKNOWN, UNKNOWN, BAD_VALUE, BAD_VALUE, BAD_VALUE};
        for (int i = 0; i < texts.length; i++) {
            String text = texts[i];
            int want = answers[i];
            String call = "readBorders of '" + text + "'";
            refusedElsewhere(call, want, () -> sceneWithText(text), x -> x.readBorders());
            test(call + " leaves the state, the history and the text", () -> {
                BorderPaints x = sceneWithText(text);
                due(want, x.readBorders());
                due(text.length(), x.count(11));
                due(want, x.readBorders());
                due(text.length(), x.clearText());
                write(x, "0-1:5,1-2");
                dueScene(x);
                dueHistory(x);
            });
        }
        test("readBorders of a text with a fault leaves the text, which can be typed to its end", () -> {
            BorderPaints x = sceneWithText("0-1:5,1-");
            due(-108, x.readBorders());
            due(9, x.type('2'));
            dueScene(x);
            dueText(x);
        });
    }

    private static BorderPaints fullMap() {
        BorderPaints x = map(0, 1, 2, 3, 0, 1, 2);
        x.keep();
        x.addCountry(3, 9);
        x.setBorder(6, 7, 4);
        x.join(6, 7);
        return x;
    }

    private static BorderPaints fullText() {
        BorderPaints x = scene();
        write(x, "0-1:44,0-1:44,0-1:44,0-1:44,0-1:44,0-1:44,0-1:44,0-1,1-2:12,");
        return x;
    }

    private static BorderPaints noRepaint() {
        BorderPaints x = scene();
        x.fix(0, true);
        return x;
    }

    private static BorderPaints goodPainting() {
        BorderPaints x = scene();
        x.repaint();
        return x;
    }

    private static BorderPaints withoutCommonColour() {
        BorderPaints x = scene();
        x.allow(0, 9);
        return x;
    }

    private static BorderPaints withoutHistory() {
        BorderPaints x = scene();
        while (x.undo() > 0) {
            x.count(10);
        }
        return x;
    }

    private static BorderPaints withoutSnapshot() {
        BorderPaints x = map(0, 0, 1);
        x.setBorder(0, 1, 3);
        x.fix(1, true);
        write(x, "0-1");
        return x;
    }

    private static void onlyElsewhere() {
        refusedElsewhere("addCountry to 8", FULL, () -> fullMap(), x -> x.addCountry(0, 1));
        refusedElsewhere("addCountry to 8, a bad one,", BAD_VALUE, () -> fullMap(), x -> x.addCountry(0, 100));
        refusedElsewhere("type to 60 characters", FULL, () -> fullText(), x -> x.type('1'));
        refusedElsewhere("repaint without a repaint", NOT_POSSIBLE, () -> noRepaint(), x -> x.repaint());
        refusedElsewhere("repaint of a good painting", NONE, () -> goodPainting(), x -> x.repaint());
        refusedElsewhere("join without a common colour", NOT_POSSIBLE, () -> withoutCommonColour(), x -> x.join(0, 1));
        refusedElsewhere("undo without a history", NONE, () -> withoutHistory(), x -> x.undo());
        refusedElsewhere("undo of a new map", NONE, () -> new BorderPaints(), x -> x.undo());
        refusedElsewhere("restore without a snapshot", NONE, () -> withoutSnapshot(), x -> x.restore());
        refusedElsewhere("restore of a new map", NONE, () -> new BorderPaints(), x -> x.restore());
        refusedElsewhere("clearText of an empty text", 0, () -> sceneWithText(""), x -> x.clearText());
        refusedElsewhere("leastRepaint without any", NOT_POSSIBLE, () -> noRepaint(), x -> x.leastRepaint(1));
        refusedElsewhere("repainted without any", NOT_POSSIBLE, () -> noRepaint(), x -> x.repainted(0));
        refusedElsewhere("wouldCost without any", NOT_POSSIBLE, () -> noRepaint(), x -> x.wouldCost(0, 1));
        refusedElsewhere("fewestColours without any", NOT_POSSIBLE, () -> noRepaint(), x -> x.fewestColours());
    }

    /** The same by answers that were worked out by hand, where the scene does not serve. */
    private static void onlyElsewhereByHand() {
        test("addCountry to 8 leaves the map, its history and its snapshot", () -> {
            BorderPaints x = fullMap();
            due(FULL, x.addCountry(0, 1));
            dueRow(row(191, 8, 0, 0, 0, 0, 0, 0, 4, 4, 4, 0), counts(x));
            dueRow(row(3, 15, 10, 0, 0, 0, 0, 0, 15), country(x, 7));
            due(3, x.undo());
            dueRow(row(67004), borders(x));
            due(2, x.undo());
            due(255, x.count(0));
            due(1, x.undo());
            due(127, x.count(0));
            due(0, x.undo());
            due(63, x.count(0));
            due(7, x.restore());
            due(7, x.addCountry(0, 1));
        });
        test("type to 60 characters leaves the text", () -> {
            BorderPaints x = map(0, 1, 2);
            write(x, "0-1:44,0-1:44,0-1:44,0-1:44,0-1:44,0-1:44,0-1:44,0-1,1-2:12,");
            due(60, x.count(11));
            due(FULL, x.type('0'));
            due(-160, x.readBorders());
            x.clearText();
            write(x, "0-1:44,0-1:44,0-1:44,0-1:44,0-1:44,0-1:44,0-1:44,0-1:8,1-2:9");
            due(60, x.count(11));
            due(FULL, x.type('9'));
            due(FULL, x.type('x'));
            due(9, x.readBorders());
            dueRow(row(1008, 12009), borders(x));
        });
        test("repaint without a repaint leaves the colours and the history", () -> {
            BorderPaints x = noRepaint();
            due(NOT_POSSIBLE, x.repaint());
            dueRow(row(15, 5, 3, 112, 1, 3, 9, 9, 3, 5, 4, 9), counts(x));
            due(3, x.undo());
            due(8, x.count(7));
            due(2, x.undo());
            due(0, x.forbidden(0, 3));
        });
        test("repaint of a good painting leaves the colours and the history", () -> {
            BorderPaints x = goodPainting();
            due(NONE, x.repaint());
            dueRow(row(15, 5, 3, 112, 0, 0, 0, 8, 4, 5, 4, 9), counts(x));
            due(3, x.undo());
            due(0, x.country(0, 0));
            due(2, x.undo());
            due(0, x.forbidden(0, 3));
        });
        test("join without a common colour leaves both as they are", () -> {
            BorderPaints x = withoutCommonColour();
            due(NOT_POSSIBLE, x.join(0, 1));
            due(NOT_POSSIBLE, x.join(1, 0));
            dueRow(row(0, 9, 5, 0, 10, 13, 1, 1, 0), country(x, 0));
            dueRow(row(1, 6, 99, 0, 5, 109, 0, 0, 6), country(x, 1));
            dueRow(row(1010, 12099, 3003), borders(x));
            due(3, x.undo());
            due(15, x.country(0, 1));
        });
        test("undo without a history leaves the state, the text and the snapshot", () -> {
            BorderPaints x = withoutHistory();
            due(NONE, x.undo());
            due(NONE, x.undo());
            dueRow(row(15, 5, 3, 112, 1, 3, 9, 0, 3, 4, 0, 9), counts(x));
            due(2, x.country(2, 0));
            due(2, x.restore());
            due(1, x.count(10));
            due(0, x.undo());
            due(2, x.readBorders());
            dueRow(row(1005, 12001, 3003), borders(x));
        });
        test("restore without a snapshot leaves the state, the history and the text", () -> {
            BorderPaints x = withoutSnapshot();
            due(NONE, x.restore());
            due(NONE, x.restore());
            dueRow(row(7, 3, 1, 3, 1, 3, 3, 2, 2, 4, 4, 3), counts(x));
            due(3, x.undo());
            due(0, x.count(7));
            due(2, x.undo());
            due(0, x.count(2));
            due(1, x.undo());
            due(2, x.count(1));
            due(NONE, x.restore());
            due(1, x.readBorders());
            due(2, x.keep());
            due(2, x.restore());
        });
    }

    private static void betweenActs() {
        test("what is refused between two acts is not seen by undo", () -> {
            BorderPaints x = map(0, 1);
            due(NONE, x.setBorder(0, 1, 0));
            due(BAD_VALUE, x.setBorder(0, 1, 100));
            due(0, x.setBorder(0, 1, 5));
            due(NONE, x.setBorder(0, 1, 5));
            due(UNKNOWN, x.paint(2, 0));
            due(NONE, x.repaint());
            due(5, x.setBorder(0, 1, 6));
            due(3, x.undo());
            due(5, x.border(0, 1));
            due(2, x.undo());
            due(0, x.border(0, 1));
            due(1, x.undo());
            due(1, x.count(1));
        });
        test("what is refused leaves the snapshot that was, and keeps none", () -> {
            BorderPaints x = map(0);
            due(BAD_VALUE, x.addCountry(4, 1));
            due(NONE, x.restore());
            due(1, x.keep());
            x.paint(0, 2);
            due(NONE, x.paint(0, 2));
            due(BAD_VALUE, x.paint(0, 4));
            due(1, x.restore());
            due(0, x.country(0, 0));
        });
    }

    public static void main(String[] args) {
        theSceneItself();
        countries();
        borders();
        repainting();
        whatIsTold();
        whatIsToldWell();
        readings();
        onlyElsewhere();
        onlyElsewhereByHand();
        betweenActs();
        end();
    }
}
