import java.util.Arrays;

/** The boundary cases of each call: its arguments' ranges, the order of its checks, its least and greatest answers. */
public final class CallBoundaries extends Checks {

    private static void p01NewObject() {
        test("1: a new object is a map without countries", () -> {
            BorderPaints x = new BorderPaints();
            dueRow(row(0, 0, 0, 0, 0, 0, 0, 0, 0, 4, 0, 0), counts(x));
            for (int country = 0; country < 8; country++) {
                due(UNKNOWN, x.country(country, 0));
            }
            due(NONE, x.borderAt(0));
        });
        test("1: the first object is not touched by what is done with the second one", () -> {
            BorderPaints first = new BorderPaints();
            BorderPaints second = map(0, 1);
            second.setBorder(0, 1, 1);
            second.forbid(0, 1, true);
            second.keep();
            write(second, "0-1");
            dueRow(row(0, 0, 0, 0, 0, 0, 0, 0, 0, 4, 0, 0), counts(first));
            due(NONE, first.undo());
            due(NONE, first.restore());
            due(-100, first.readBorders());
            due(0, first.forbidden(0, 1));
        });
    }

    private static void p02AddCountry() {
        test("2: colour 0 to 3", () -> {
            BorderPaints x = new BorderPaints();
            for (int colour = 0; colour <= 3; colour++) {
                due(colour, x.addCountry(colour, 1));
                due(colour, x.country(colour, 0));
            }
            for (int colour : NO_COLOURS) {
                due(BAD_VALUE, x.addCountry(colour, 1));
            }
            due(4, x.count(1));
        });
        test("2: weight 1 to 99", () -> {
            int[] bad = {0, -1, -99, 100, 101, 128, 257, 65537, LOW, LOW + 1, HIGH};
            BorderPaints x = new BorderPaints();
            for (int weight : bad) {
                due(BAD_VALUE, x.addCountry(0, weight));
            }
            due(0, x.count(1));
            due(0, x.addCountry(0, 1));
            due(1, x.addCountry(0, 99));
            due(1, x.country(0, 2));
            due(99, x.country(1, 2));
        });
        test("2: returns its number, 7 at most", () -> {
            BorderPaints x = new BorderPaints();
            for (int number = 0; number <= 7; number++) {
                due(number, x.addCountry(0, 1));
                due(number + 1, x.count(1));
            }
        });
        test("2: FULL if there have been 8", () -> {
            BorderPaints x = map(0, 0, 0, 0, 0, 0, 0);
            due(7, x.addCountry(0, 1));
            due(FULL, x.addCountry(0, 1));
            due(FULL, x.addCountry(3, 99));
        });
        test("2: BAD_VALUE is before FULL", () -> {
            BorderPaints x = map(0, 0, 0, 0, 0, 0, 0, 0);
            due(BAD_VALUE, x.addCountry(4, 1));
            due(BAD_VALUE, x.addCountry(-1, 1));
            due(BAD_VALUE, x.addCountry(0, 0));
            due(BAD_VALUE, x.addCountry(0, 100));
        });
        test("2: adds a country without borders, with all colours, not fixed", () -> {
            BorderPaints x = map(1);
            x.fix(0, true);
            x.allow(0, 2);
            due(1, x.addCountry(1, 42));
            dueRow(row(1, 15, 42, 0, 0, 0, 0, 0, 15), country(x, 1));
        });
        test("2: one that comes after an undo has nothing of the one that was undone", () -> {
            BorderPaints x = map(0, 1);
            x.setBorder(0, 1, 9);
            x.fix(1, true);
            x.allow(1, 3);
            x.undo();
            x.undo();
            x.undo();
            x.undo();
            due(1, x.addCountry(2, 7));
            dueRow(row(2, 15, 7, 0, 0, 0, 0, 0, 15), country(x, 1));
        });
    }

    private static void p03Paint() {
        test("3: UNKNOWN for every number of no country", () -> {
            BorderPaints x = three();
            for (int number : NOT_IN_THREE) {
                due(UNKNOWN, x.paint(number, 3));
            }
        });
        test("3: colour 0 to 3", () -> {
            BorderPaints x = three();
            for (int colour : NO_COLOURS) {
                due(BAD_VALUE, x.paint(0, colour));
            }
            due(0, x.country(0, 0));
            due(0, x.paint(0, 3));
            due(3, x.country(0, 0));
            due(0, x.paint(0, 0));
            due(0, x.country(0, 0));
        });
        test("3: UNKNOWN is before BAD_VALUE", () -> due(UNKNOWN, three().paint(3, 4)));
        test("3: BAD_VALUE is before NOT_POSSIBLE", () -> {
            BorderPaints x = three();
            x.fix(0, true);
            due(BAD_VALUE, x.paint(0, 4));
            due(BAD_VALUE, x.paint(0, -1));
        });
        test("3: NOT_POSSIBLE is before NONE: a fixed country that has this colour already", () -> {
            BorderPaints x = three();
            x.fix(0, true);
            due(NOT_POSSIBLE, x.paint(0, 0));
            due(NOT_POSSIBLE, x.paint(0, 1));
            x.fix(0, false);
            due(NONE, x.paint(0, 0));
            due(0, x.paint(0, 1));
        });
        test("3: only that country's being fixed counts", () -> {
            BorderPaints x = three();
            x.fix(1, true);
            x.fix(2, true);
            due(0, x.paint(0, 1));
        });
        test("3: returns the countries that are wrong then: none, all 8, also ones without a border with it", () -> {
            BorderPaints x = map(0, 1, 1, 1, 1, 1, 1, 1);
            for (int other = 1; other < 8; other++) {
                x.setBorder(0, other, 1);
            }
            due(255, x.paint(0, 1));
            due(0, x.paint(0, 2));
            x.allow(7, 1);
            due(128, x.paint(0, 3));
        });
        test("3: whatever conflicts this makes, and whatever it may have", () -> {
            BorderPaints x = map(0, 1);
            x.setBorder(0, 1, 1);
            x.allow(0, 1);
            due(3, x.paint(0, 1));
            due(1, x.paint(0, 2));
        });
    }

    private static void p04Allow() {
        test("4: UNKNOWN for every number of no country", () -> {
            BorderPaints x = three();
            for (int number : NOT_IN_THREE) {
                due(UNKNOWN, x.allow(number, 1));
            }
        });
        test("4: colours 1 to 15", () -> {
            int[] bad = {0, -1, -15, -16, 16, 17, 31, 32, 256, 257, 65537, LOW, LOW + 1, HIGH};
            BorderPaints x = three();
            for (int colours : bad) {
                due(BAD_VALUE, x.allow(0, colours));
            }
            due(15, x.country(0, 1));
            for (int colours = 1; colours <= 15; colours++) {
                due(colours == 1 ? 15 : colours - 1, x.allow(0, colours));
                due(colours, x.country(0, 1));
            }
        });
        test("4: UNKNOWN is before BAD_VALUE", () -> {
            due(UNKNOWN, three().allow(3, 0));
            due(UNKNOWN, three().allow(-1, 16));
        });
        test("4: UNKNOWN is before NONE", () -> due(UNKNOWN, three().allow(3, 15)));
        test("4: NONE if it is so already, at first and later", () -> {
            BorderPaints x = three();
            due(NONE, x.allow(0, 15));
            due(15, x.allow(0, 4));
            due(NONE, x.allow(0, 4));
            due(4, x.allow(0, 15));
            due(NONE, x.allow(0, 15));
        });
        test("4: a fixed country too, also so that it is wrong", () -> {
            BorderPaints x = three();
            x.fix(0, true);
            due(15, x.allow(0, 8));
            due(1, x.count(6));
        });
    }

    private static void p05Fix() {
        test("5: UNKNOWN for every number of no country", () -> {
            BorderPaints x = three();
            for (int number : NOT_IN_THREE) {
                due(UNKNOWN, x.fix(number, true));
            }
        });
        test("5: UNKNOWN is before NONE", () -> {
            due(UNKNOWN, three().fix(3, false));
            due(UNKNOWN, three().fix(8, false));
        });
        test("5: NONE if it is so already, fixed or not", () -> {
            BorderPaints x = three();
            due(NONE, x.fix(0, false));
            due(1, x.fix(0, true));
            due(NONE, x.fix(0, true));
            due(0, x.fix(0, false));
            due(NONE, x.fix(0, false));
        });
        test("5: returns how many are fixed then, 0 to 8", () -> {
            BorderPaints x = map(0, 0, 0, 0, 0, 0, 0, 0);
            for (int country = 0; country < 8; country++) {
                due(country + 1, x.fix(country, true));
            }
            due(255, x.count(7));
            for (int country = 0; country < 8; country++) {
                due(7 - country, x.fix(country, false));
            }
            due(0, x.count(7));
        });
    }

    private static void p06Forbid() {
        test("6: colour 0 to 3, other 0 to 3", () -> {
            BorderPaints x = three();
            for (int colour : NO_COLOURS) {
                due(BAD_VALUE, x.forbid(colour, 0, true));
                due(BAD_VALUE, x.forbid(3, colour, true));
                due(BAD_VALUE, x.forbid(colour, colour, true));
            }
            due(4, x.count(9));
            due(0, x.forbid(0, 3, true));
            due(0, x.forbid(3, 3, false));
            due(4, x.count(9));
        });
        test("6: BAD_VALUE is before NONE", () -> {
            due(BAD_VALUE, three().forbid(0, 4, false));
            due(BAD_VALUE, three().forbid(-1, 0, false));
        });
        test("6: NONE if it is so already, in both orders", () -> {
            BorderPaints x = three();
            due(NONE, x.forbid(2, 2, true));
            due(NONE, x.forbid(1, 2, false));
            due(0, x.forbid(1, 2, true));
            due(NONE, x.forbid(1, 2, true));
            due(NONE, x.forbid(2, 1, true));
            due(0, x.forbid(2, 1, false));
            due(NONE, x.forbid(1, 2, false));
        });
        test("6: perhaps the same one: a colour and itself, no more and again", () -> {
            BorderPaints x = map(1, 1);
            x.setBorder(0, 1, 1);
            due(0, x.forbid(1, 1, false));
            due(0, x.count(6));
            due(0, x.forbidden(1, 1));
            due(1, x.forbid(1, 1, true));
            due(3, x.count(6));
        });
        test("6: returns how many borders are in conflict then, not the countries: from 0 to 28", () -> {
            BorderPaints x = map(2, 2, 2, 2, 2, 2, 2, 2);
            x.forbid(2, 2, false);
            for (int one = 0; one < 8; one++) {
                for (int other = one + 1; other < 8; other++) {
                    x.setBorder(one, other, 9);
                }
            }
            due(0, x.forbid(1, 2, true));
            due(28, x.forbid(2, 2, true));
            due(28, x.forbid(1, 1, false));
            due(0, x.forbid(2, 2, false));
        });
        test("6: just that pair", () -> {
            BorderPaints x = new BorderPaints();
            due(0, x.forbid(1, 3, true));
            dueRow(row(1, 0, 0, 0, 0, 1, 0, 1, 0, 0, 1, 0, 0, 1, 0, 1), forbiddenPairs(x));
            due(0, x.forbid(1, 1, false));
            dueRow(row(1, 0, 0, 0, 0, 0, 0, 1, 0, 0, 1, 0, 0, 1, 0, 1), forbiddenPairs(x));
            due(0, x.forbid(3, 1, false));
            dueRow(row(1, 0, 0, 0, 0, 0, 0, 0, 0, 0, 1, 0, 0, 0, 0, 1), forbiddenPairs(x));
        });
    }

    private static void p07SetBorder() {
        test("7: UNKNOWN (country or other) for every number of no country", () -> {
            BorderPaints x = three();
            for (int number : NOT_IN_THREE) {
                due(UNKNOWN, x.setBorder(number, 0, 1));
                due(UNKNOWN, x.setBorder(0, number, 1));
                due(UNKNOWN, x.setBorder(number, number, 1));
            }
            due(0, x.count(2));
        });
        test("7: length 0 to 99", () -> {
            int[] bad = {-1, -99, 100, 101, 127, 128, 256, 257, 65536, 65537, LOW, LOW + 1, HIGH};
            BorderPaints x = three();
            for (int length : bad) {
                due(BAD_VALUE, x.setBorder(0, 1, length));
            }
            due(0, x.border(0, 1));
            due(0, x.setBorder(0, 1, 99));
            due(99, x.setBorder(0, 1, 1));
            due(1, x.setBorder(0, 1, 0));
            due(0, x.border(0, 1));
        });
        test("7: BAD_VALUE if both are the same", () -> {
            due(BAD_VALUE, three().setBorder(0, 0, 1));
            due(BAD_VALUE, three().setBorder(2, 2, 99));
        });
        test("7: UNKNOWN is before BAD_VALUE", () -> {
            due(UNKNOWN, three().setBorder(3, 0, 100));
            due(UNKNOWN, three().setBorder(0, 3, -1));
            due(UNKNOWN, three().setBorder(3, 3, 100));
        });
        test("7: BAD_VALUE is before NONE: both are the same and have no border", () -> {
            due(BAD_VALUE, three().setBorder(1, 1, 0));
        });
        test("7: UNKNOWN is before NONE", () -> due(UNKNOWN, three().setBorder(0, 3, 0)));
        test("7: NONE if it is so already, with a length and with none, in both orders", () -> {
            BorderPaints x = three();
            due(NONE, x.setBorder(0, 1, 0));
            due(NONE, x.setBorder(1, 0, 0));
            due(0, x.setBorder(0, 1, 5));
            due(NONE, x.setBorder(0, 1, 5));
            due(NONE, x.setBorder(1, 0, 5));
            due(5, x.setBorder(1, 0, 0));
            due(NONE, x.setBorder(0, 1, 0));
        });
        test("7: returns the previous length, 0 if there was none", () -> {
            BorderPaints x = three();
            due(0, x.setBorder(2, 1, 99));
            due(99, x.setBorder(1, 2, 98));
            due(98, x.setBorder(1, 2, 0));
            due(0, x.setBorder(1, 2, 1));
        });
        test("7: just that border", () -> {
            BorderPaints x = three();
            x.setBorder(0, 1, 1);
            x.setBorder(1, 2, 2);
            x.setBorder(0, 2, 3);
            due(2, x.setBorder(1, 2, 0));
            dueRow(row(1001, 2003), borders(x));
        });
    }

    private static void p08ReadBorders() {
        test("8: -100 minus the fault, for the empty text -100", () -> {
            due(-100, reading(""));
            due(-101, reading("0"));
            due(-103, reading("0-1-"));
        });
        test("8: the fault is before UNKNOWN", () -> {
            due(-104, reading("3-4,"));
            due(-106, reading("8-9:12x"));
        });
        test("8: the fault is before BAD_VALUE", () -> {
            due(-104, reading("1-1,"));
            due(-103, reading("0-0;"));
        });
        test("8: UNKNOWN is before BAD_VALUE, also if it comes later in the text", () -> {
            due(UNKNOWN, reading("1-1,0-3"));
            due(UNKNOWN, reading("0-3,1-1"));
            due(UNKNOWN, reading("3-3"));
        });
        test("8: UNKNOWN if there is no such country in any border: the first, one between, the last", () -> {
            due(UNKNOWN, reading("3-0,0-1,1-2"));
            due(UNKNOWN, reading("0-1,1-3,1-2"));
            due(UNKNOWN, reading("0-1,1-2,0-9"));
            due(3, reading("0-1,1-2,0-2"));
        });
        test("8: UNKNOWN for one that was joined", () -> {
            BorderPaints x = three();
            write(x, "0-1,3-0");
            due(UNKNOWN, x.readBorders());
            write(x, "0-1,2-0");
            due(2, x.readBorders());
        });
        test("8: BAD_VALUE if both countries of any border are the same: the first, one between, the last", () -> {
            due(BAD_VALUE, reading("0-0,0-1,1-2"));
            due(BAD_VALUE, reading("0-1,2-2:9,1-2"));
            due(BAD_VALUE, reading("0-1,1-2,1-1"));
        });
        test("8: UNKNOWN, not a fault, in a map without countries", () -> {
            BorderPaints x = new BorderPaints();
            write(x, "0-1");
            due(UNKNOWN, x.readBorders());
        });
        test("8: one after the other: of two with the same countries the later one stands", () -> {
            BorderPaints x = map(0, 1);
            write(x, "0-1:3,1-0:4,0-1");
            due(3, x.readBorders());
            due(1, x.border(0, 1));
            due(1, x.count(2));
        });
        test("8: in the order of the text, those that are there already keep their places", () -> {
            BorderPaints x = map(0, 1, 2, 3);
            x.setBorder(2, 3, 7);
            write(x, "3-1:99,3-2:8,1-0");
            due(3, x.readBorders());
            dueRow(row(23008, 13099, 1001), borders(x));
        });
        test("8: borders that are not in the text stay", () -> {
            BorderPaints x = map(0, 1, 2);
            x.setBorder(0, 2, 50);
            write(x, "0-1:2");
            due(1, x.readBorders());
            dueRow(row(2050, 1002), borders(x));
        });
        test("8: the text stays", () -> {
            BorderPaints x = map(0, 1, 2);
            write(x, "0-1:5");
            due(1, x.readBorders());
            due(5, x.count(11));
            x.setBorder(0, 1, 9);
            due(1, x.readBorders());
            due(5, x.border(0, 1));
            due(6, x.type('5'));
            due(1, x.readBorders());
            due(55, x.border(0, 1));
        });
        test("8: just the borders of the text as it is, whatever was read before", () -> {
            BorderPaints x = map(0, 1, 2);
            write(x, "0-1:5,1-2:9,0-2");
            due(3, x.readBorders());
            write(x, "0-1:7");
            x.setBorder(1, 2, 0);
            due(1, x.readBorders());
            dueRow(row(1007, 2001), borders(x));
            x.undo();
            x.undo();
            x.undo();
            x.undo();
            due(2, x.count(1));
            due(1, x.readBorders());
            dueRow(row(1007), borders(x));
        });
        test("8: this is one act, of 15 borders too", () -> {
            BorderPaints x = map(0, 1, 2, 3);
            x.undo();
            x.undo();
            x.undo();
            x.addCountry(1, 1);
            x.addCountry(2, 1);
            write(x, "0-1,0-2,1-2,0-1,0-2,1-2,0-1,0-2,1-2,0-1,0-2,1-2,0-1,0-2,1-2");
            due(15, x.readBorders());
            due(3, x.count(2));
            due(4, x.count(10));
            due(3, x.undo());
            due(0, x.count(2));
            due(3, x.count(1));
        });
    }

    private static void p09Join() {
        test("9: UNKNOWN (country or other) for every number of no country", () -> {
            BorderPaints x = three();
            for (int number : NOT_IN_THREE) {
                due(UNKNOWN, x.join(number, 0));
                due(UNKNOWN, x.join(0, number));
            }
            due(7, x.count(0));
        });
        test("9: UNKNOWN is before BAD_VALUE", () -> {
            due(UNKNOWN, three().join(3, 3));
            due(UNKNOWN, three().join(8, 8));
        });
        test("9: BAD_VALUE if both are the same, before NOT_POSSIBLE", () -> {
            BorderPaints x = three();
            due(BAD_VALUE, x.join(1, 1));
            x.fix(1, true);
            due(BAD_VALUE, x.join(1, 1));
        });
        test("9: NOT_POSSIBLE if they have no border", () -> {
            BorderPaints x = three();
            due(NOT_POSSIBLE, x.join(0, 1));
            x.setBorder(0, 2, 1);
            x.setBorder(1, 2, 1);
            due(NOT_POSSIBLE, x.join(0, 1));
            x.setBorder(0, 1, 1);
            x.setBorder(0, 1, 0);
            due(NOT_POSSIBLE, x.join(0, 1));
            x.setBorder(0, 1, 1);
            due(1, x.join(0, 1));
        });
        test("9: NOT_POSSIBLE if one of them is fixed, whichever", () -> {
            BorderPaints x = three();
            x.setBorder(0, 1, 1);
            x.fix(0, true);
            due(NOT_POSSIBLE, x.join(0, 1));
            due(NOT_POSSIBLE, x.join(1, 0));
            x.fix(1, true);
            due(NOT_POSSIBLE, x.join(0, 1));
            x.fix(0, false);
            due(NOT_POSSIBLE, x.join(0, 1));
            due(NOT_POSSIBLE, x.join(1, 0));
            x.fix(1, false);
            due(0, x.join(0, 1));
        });
        test("9: a third country that is fixed does not matter", () -> {
            BorderPaints x = three();
            x.setBorder(0, 1, 1);
            x.setBorder(0, 2, 1);
            x.fix(2, true);
            due(1, x.join(0, 1));
            due(4, x.count(7));
        });
        test("9: NOT_POSSIBLE if there is no colour that both may have", () -> {
            BorderPaints x = three();
            x.setBorder(0, 1, 1);
            x.allow(0, 7);
            x.allow(1, 8);
            due(NOT_POSSIBLE, x.join(0, 1));
            due(NOT_POSSIBLE, x.join(1, 0));
            x.allow(0, 8);
            due(0, x.join(0, 1));
        });
        test("9: returns how many neighbours the other one has then, 0 to 6", () -> {
            BorderPaints x = map(0, 1);
            x.setBorder(0, 1, 1);
            due(0, x.join(0, 1));
            BorderPaints y = map(0, 0, 0, 0, 0, 0, 0, 0);
            for (int other = 1; other < 8; other++) {
                y.setBorder(0, other, 1);
            }
            due(6, y.join(0, 4));
            due(1, y.border(4, 7));
            due(238, y.country(4, 4));
        });
        test("9: also if it is in conflict, in both or in none of the two colours' sets", () -> {
            BorderPaints x = map(0, 0);
            x.setBorder(0, 1, 1);
            x.allow(0, 6);
            x.allow(1, 12);
            due(3, x.count(6));
            due(0, x.join(0, 1));
            due(4, x.country(1, 1));
            due(0, x.country(1, 0));
            due(2, x.count(6));
        });
    }

    /** 0 has borders of length 10 with 1 and of length 20 with 2; 1 and 2 have none. */
    private static BorderPaints givers() {
        BorderPaints x = three();
        x.setBorder(0, 1, 10);
        x.setBorder(0, 2, 20);
        return x;
    }

    private static void p10Give() {
        test("10: UNKNOWN (country, from or to) for every number of no country", () -> {
            BorderPaints x = givers();
            for (int number : NOT_IN_THREE) {
                due(UNKNOWN, x.give(number, 1, 2, 1));
                due(UNKNOWN, x.give(0, number, 2, 1));
                due(UNKNOWN, x.give(0, 1, number, 1));
            }
            due(30, x.count(3));
        });
        test("10: length 1 to 99", () -> {
            int[] bad = {0, -1, -99, 100, 101, 256, 257, LOW, LOW + 1, HIGH};
            BorderPaints x = givers();
            for (int length : bad) {
                due(BAD_VALUE, x.give(0, 1, 2, length));
            }
            due(30, x.count(3));
            due(9, x.give(0, 1, 2, 1));
            x.setBorder(0, 1, 99);
            due(0, x.give(0, 1, 2, 99));
        });
        test("10: BAD_VALUE if two of them are the same, whichever, or all", () -> {
            BorderPaints x = givers();
            due(BAD_VALUE, x.give(0, 0, 1, 1));
            due(BAD_VALUE, x.give(0, 1, 0, 1));
            due(BAD_VALUE, x.give(0, 1, 1, 1));
            due(BAD_VALUE, x.give(0, 0, 0, 1));
        });
        test("10: UNKNOWN is before BAD_VALUE", () -> {
            BorderPaints x = givers();
            due(UNKNOWN, x.give(3, 1, 1, 1));
            due(UNKNOWN, x.give(0, 3, 3, 1));
            due(UNKNOWN, x.give(0, 0, 3, 1));
            due(UNKNOWN, x.give(0, 1, 3, 0));
        });
        test("10: BAD_VALUE is before NOT_POSSIBLE", () -> {
            BorderPaints x = givers();
            due(BAD_VALUE, x.give(1, 2, 2, 1));
            due(BAD_VALUE, x.give(1, 2, 0, 0));
            due(BAD_VALUE, x.give(0, 1, 2, 100));
        });
        test("10: NOT_POSSIBLE if it has no border with one of them, the first or the second", () -> {
            BorderPaints x = givers();
            due(NOT_POSSIBLE, x.give(1, 2, 0, 1));
            due(NOT_POSSIBLE, x.give(1, 0, 2, 1));
            x.setBorder(1, 2, 1);
            due(0, x.give(1, 2, 0, 1));
        });
        test("10: NOT_POSSIBLE if the border with the first one is shorter than length", () -> {
            BorderPaints x = givers();
            due(NOT_POSSIBLE, x.give(0, 1, 2, 11));
            due(NOT_POSSIBLE, x.give(0, 1, 2, 99));
            due(NOT_POSSIBLE, x.give(0, 2, 1, 21));
            due(1, x.give(0, 2, 1, 19));
            due(NOT_POSSIBLE, x.give(0, 2, 1, 2));
        });
        test("10: returns the length of the border with the first one then (0 if it is gone)", () -> {
            BorderPaints x = givers();
            due(1, x.give(0, 1, 2, 9));
            due(0, x.give(0, 1, 2, 1));
            due(0, x.border(0, 1));
            due(30, x.border(0, 2));
        });
        test("10: fixed countries too, of whatever colours", () -> {
            BorderPaints x = givers();
            x.fix(0, true);
            x.fix(1, true);
            x.fix(2, true);
            x.allow(1, 1);
            due(5, x.give(0, 1, 2, 5));
        });
    }

    private static void p11Repaint() {
        test("11: NONE if the painting is good already", () -> {
            BorderPaints x = three();
            x.setBorder(0, 1, 1);
            due(NONE, x.repaint());
            x.fix(0, true);
            due(NONE, x.repaint());
        });
        test("11: NOT_POSSIBLE if there is no repaint", () -> {
            BorderPaints x = map(0, 1, 2);
            x.setBorder(0, 1, 1);
            x.allow(0, 8);
            x.allow(1, 8);
            due(NOT_POSSIBLE, x.repaint());
            dueRow(row(0, 1, 2), colours(x));
        });
        test("11: NOT_POSSIBLE for five countries that all have borders with one another, not for four", () -> {
            BorderPaints x = map(0, 0, 0, 0, 0);
            for (int one = 0; one < 4; one++) {
                for (int other = one + 1; other < 4; other++) {
                    x.setBorder(one, other, 1);
                }
                x.setBorder(one, 4, 1);
            }
            due(NOT_POSSIBLE, x.repaint());
            x.setBorder(3, 4, 0);
            due(3, x.repaint());
            dueRow(row(1, 2, 3, 0, 0), colours(x));
        });
        test("11: makes the least repaint: returns its cost, and the painting is good then", () -> {
            BorderPaints x = map(0, 0, 0);
            x.setBorder(0, 1, 1);
            x.setBorder(1, 2, 1);
            x.setBorder(0, 2, 1);
            due(2, x.repaint());
            dueRow(row(0, 1, 2), colours(x));
            due(0, x.count(6));
            due(NONE, x.repaint());
        });
        test("11: leaves all but the colours as it is", () -> {
            BorderPaints x = map(0, 0);
            x.setBorder(0, 1, 7);
            x.allow(1, 12);
            due(1, x.repaint());
            dueRow(row(0, 15, 1, 0, 2, 7, 0, 0, 11), country(x, 0));
            dueRow(row(2, 12, 1, 0, 1, 7, 0, 0, 12), country(x, 1));
        });
        test("11: one that was joined is not painted, not counted, and back by undo as it was", () -> {
            BorderPaints x = map(0, 1, 1);
            x.setBorder(0, 1, 1);
            x.setBorder(1, 2, 1);
            due(1, x.join(0, 1));
            due(1, x.repaint());
            due(UNKNOWN, x.repainted(0));
            x.undo();
            x.undo();
            dueRow(row(0, 1, 1), colours(x));
        });
    }

    private static void p12Exchange() {
        test("12: UNKNOWN for every number of no country", () -> {
            BorderPaints x = three();
            for (int number : NOT_IN_THREE) {
                due(UNKNOWN, x.exchange(number, 3));
            }
        });
        test("12: colour 0 to 3", () -> {
            BorderPaints x = three();
            for (int colour : NO_COLOURS) {
                due(BAD_VALUE, x.exchange(0, colour));
            }
            due(0, x.country(0, 0));
            due(1, x.exchange(0, 3));
            due(1, x.exchange(0, 0));
        });
        test("12: BAD_VALUE also if it is its own colour", () -> {
            BorderPaints x = three();
            due(BAD_VALUE, x.exchange(0, 0));
            due(BAD_VALUE, x.exchange(2, 2));
            x.paint(0, 3);
            due(BAD_VALUE, x.exchange(0, 3));
            due(1, x.exchange(0, 0));
        });
        test("12: UNKNOWN is before BAD_VALUE", () -> due(UNKNOWN, three().exchange(3, 4)));
        test("12: BAD_VALUE is before NOT_POSSIBLE", () -> {
            BorderPaints x = three();
            x.fix(0, true);
            x.allow(0, 8);
            due(BAD_VALUE, x.exchange(0, 0));
            due(BAD_VALUE, x.exchange(0, 4));
            due(NOT_POSSIBLE, x.exchange(0, 3));
        });
        test("12: NOT_POSSIBLE if any country of the chain is fixed: the first, the farthest, none outside", () -> {
            BorderPaints x = map(0, 1, 0, 2);
            x.setBorder(0, 1, 1);
            x.setBorder(1, 2, 1);
            x.setBorder(2, 3, 1);
            x.fix(0, true);
            due(NOT_POSSIBLE, x.exchange(0, 1));
            due(NOT_POSSIBLE, x.exchange(2, 1));
            x.fix(0, false);
            x.fix(2, true);
            due(NOT_POSSIBLE, x.exchange(0, 1));
            x.fix(2, false);
            x.fix(3, true);
            due(3, x.exchange(0, 1));
        });
        test("12: NOT_POSSIBLE for the country 7 as for the others", () -> {
            BorderPaints x = map(0, 0, 0, 0, 0, 0, 1, 0);
            x.setBorder(6, 7, 1);
            x.fix(7, true);
            due(NOT_POSSIBLE, x.exchange(6, 0));
            x.fix(7, false);
            x.allow(7, 13);
            due(NOT_POSSIBLE, x.exchange(6, 0));
            x.allow(7, 2);
            due(2, x.exchange(6, 0));
            due(1, x.country(7, 0));
        });
        test("12: NOT_POSSIBLE if any of the chain may not have the other one of both colours", () -> {
            BorderPaints x = map(0, 1, 0);
            x.setBorder(0, 1, 1);
            x.setBorder(1, 2, 1);
            x.allow(2, 13);
            due(NOT_POSSIBLE, x.exchange(0, 1));
            x.allow(2, 2);
            x.allow(1, 14);
            due(NOT_POSSIBLE, x.exchange(0, 1));
            x.allow(1, 1);
            x.allow(0, 2);
            due(3, x.exchange(0, 1));
            dueRow(row(1, 0, 1), colours(x));
        });
        test("12: returns how many countries are in the chain, 1 to 8", () -> {
            BorderPaints x = map(0, 1, 1, 1, 1, 1, 1, 1);
            due(1, x.exchange(0, 1));
            x.exchange(0, 0);
            for (int other = 1; other < 8; other++) {
                x.setBorder(0, other, 1);
                due(other + 1, x.exchange(0, 1));
                x.undo();
            }
        });
        test("12: also if conflicts come or stay by it", () -> {
            BorderPaints x = map(0, 0, 2);
            x.setBorder(0, 1, 1);
            x.setBorder(1, 2, 1);
            x.forbid(1, 2, true);
            due(2, x.exchange(0, 1));
            due(2, x.count(4));
            dueRow(row(1, 1, 2), colours(x));
        });
    }

    private static void p13Type() {
        test("13: any character, the least and the greatest too", () -> {
            BorderPaints x = new BorderPaints();
            char[] some = {0, 1, '\n', ' ', 127, 128, 255, 256, 0x7fff, 0x8000, 0xd800, 0xffff};
            for (int i = 0; i < some.length; i++) {
                due(i + 1, x.type(some[i]));
            }
            due(-100, x.readBorders());
        });
        test("13: FULL if it has 60 characters, again and again", () -> {
            BorderPaints x = new BorderPaints();
            for (int i = 0; i < 59; i++) {
                x.type('0');
            }
            due(60, x.type('0'));
            due(FULL, x.type('0'));
            due(FULL, x.type((char) 0));
            due(60, x.count(11));
        });
        test("13: behind the text: in the order in which they come", () -> {
            BorderPaints x = map(0, 1);
            due(1, x.type('1'));
            due(2, x.type('-'));
            due(3, x.type('0'));
            due(4, x.type(':'));
            due(5, x.type('4'));
            due(6, x.type('2'));
            due(1, x.readBorders());
            due(42, x.border(0, 1));
        });
    }

    private static void p14ClearText() {
        test("14: returns the length that it had: 0, 1, 60", () -> {
            BorderPaints x = new BorderPaints();
            due(0, x.clearText());
            x.type('0');
            due(1, x.clearText());
            due(0, x.clearText());
            for (int i = 0; i < 61; i++) {
                x.type('0');
            }
            due(60, x.clearText());
            due(0, x.count(11));
        });
        test("14: after it there is room for 60 characters again", () -> {
            BorderPaints x = new BorderPaints();
            for (int i = 0; i < 60; i++) {
                x.type('0');
            }
            x.clearText();
            for (int i = 1; i <= 60; i++) {
                due(i, x.type('0'));
            }
            due(FULL, x.type('0'));
        });
        test("14: nothing of the text is left", () -> {
            BorderPaints x = map(0, 1);
            write(x, "0-1:12");
            x.clearText();
            write(x, "0-1:3");
            due(1, x.readBorders());
            due(3, x.border(0, 1));
        });
    }

    private static void p15Undo() {
        test("15: NONE if the history is empty: at first, and after all states were removed", () -> {
            BorderPaints x = new BorderPaints();
            due(NONE, x.undo());
            x.addCountry(0, 1);
            due(0, x.undo());
            due(NONE, x.undo());
            due(NONE, x.undo());
            due(0, x.addCountry(0, 1));
            due(1, x.count(10));
        });
        test("15: returns the number of states that are left, 3 at most", () -> {
            BorderPaints x = map(0, 1, 2, 3, 0, 1, 2, 3);
            due(3, x.undo());
            due(2, x.undo());
            due(1, x.undo());
            due(0, x.undo());
            due(NONE, x.undo());
            due(4, x.count(1));
        });
        test("15: undoes a join with all that it changed", () -> {
            BorderPaints x = map(0, 1, 2);
            x.setBorder(0, 2, 60);
            x.setBorder(0, 1, 5);
            x.setBorder(1, 2, 70);
            x.allow(0, 3);
            x.join(0, 1);
            due(3, x.undo());
            dueRow(row(2060, 1005, 12070), borders(x));
            dueRow(row(0, 3, 1, 0, 6, 65, 0, 0, 1), country(x, 0));
            dueRow(row(1, 15, 1, 0, 5, 75, 0, 0, 10), country(x, 1));
        });
        test("15: leaves the text and the snapshot as they are", () -> {
            BorderPaints x = map(0, 1);
            x.keep();
            write(x, "0-1");
            x.undo();
            x.undo();
            due(3, x.count(11));
            due(2, x.restore());
            due(1, x.readBorders());
        });
    }

    private static void p16Keep() {
        test("16: returns how many countries are there, 0 to 8, not those that were joined", () -> {
            BorderPaints x = new BorderPaints();
            for (int number = 0; number < 8; number++) {
                due(number, x.keep());
                x.addCountry(0, 1);
            }
            due(8, x.keep());
            x.setBorder(0, 7, 1);
            x.join(0, 7);
            due(7, x.keep());
            due(7, x.restore());
            due(254, x.count(0));
        });
        test("16: in place of the one that was", () -> {
            BorderPaints x = map(0);
            x.keep();
            x.paint(0, 1);
            x.keep();
            x.paint(0, 2);
            due(1, x.restore());
            due(1, x.country(0, 0));
        });
        test("16: of the state as it is then: what is done later does not change it", () -> {
            BorderPaints x = map(0, 1);
            x.setBorder(0, 1, 5);
            x.keep();
            x.setBorder(0, 1, 6);
            x.forbid(0, 1, true);
            x.fix(0, true);
            due(2, x.restore());
            dueRow(row(3, 2, 1, 5, 0, 0, 0, 0, 2, 4), Arrays.copyOf(counts(x), 10));
        });
        test("16: is no act", () -> {
            BorderPaints x = map(0);
            x.keep();
            due(1, x.count(10));
            due(0, x.undo());
        });
    }

    private static void p17Restore() {
        test("17: NONE if there is no snapshot, also if there is a history", () -> {
            due(NONE, new BorderPaints().restore());
            BorderPaints x = map(0, 1);
            due(NONE, x.restore());
            due(2, x.count(10));
        });
        test("17: the snapshot stays", () -> {
            BorderPaints x = map(0);
            x.keep();
            for (int i = 0; i < 6; i++) {
                x.addCountry(1, 1);
                due(1, x.restore());
                due(1, x.count(1));
            }
        });
        test("17: what is done after it does not change the snapshot", () -> {
            BorderPaints x = map(0, 1);
            x.keep();
            x.restore();
            x.paint(0, 3);
            x.setBorder(0, 1, 9);
            x.restore();
            due(0, x.country(0, 0));
            due(0, x.count(2));
        });
        test("17: is an act that undo takes back, and that drops the oldest state of 4", () -> {
            BorderPaints x = map(0);
            x.keep();
            x.paint(0, 1);
            x.paint(0, 2);
            x.paint(0, 3);
            due(4, x.count(10));
            due(1, x.restore());
            due(4, x.count(10));
            due(3, x.undo());
            due(3, x.country(0, 0));
            x.undo();
            x.undo();
            due(0, x.undo());
            due(0, x.country(0, 0));
            due(NONE, x.undo());
        });
        test("17: returns how many countries are there then, and brings back one that was joined", () -> {
            BorderPaints x = map(0, 1);
            x.setBorder(0, 1, 1);
            x.keep();
            x.join(0, 1);
            due(2, x.restore());
            due(0, x.country(0, 0));
            due(3, x.undo());
            due(UNKNOWN, x.country(0, 0));
        });
    }

    private static void p18Country() {
        test("18: UNKNOWN for every number of no country", () -> {
            BorderPaints x = three();
            for (int number : NOT_IN_THREE) {
                due(UNKNOWN, x.country(number, 0));
            }
        });
        test("18: what 0 to 8", () -> {
            int[] bad = {-1, -8, 9, 10, 16, 32, 256, 65536, LOW, HIGH};
            for (int what : bad) {
                due(BAD_VALUE, three().country(0, what));
            }
            dueRow(row(0, 15, 1, 0, 0, 0, 0, 0, 15), country(three(), 0));
        });
        test("18: UNKNOWN is before BAD_VALUE", () -> {
            due(UNKNOWN, three().country(3, 9));
            due(UNKNOWN, three().country(-1, -1));
        });
        test("18: the least that can be told of a country, and the most", () -> {
            BorderPaints x = new BorderPaints();
            x.addCountry(0, 1);
            x.allow(0, 1);
            dueRow(row(0, 1, 1, 0, 0, 0, 0, 0, 1), country(x, 0));
            BorderPaints y = map(3, 3, 3, 3, 3, 3, 3);
            y.addCountry(3, 99);
            for (int other = 0; other < 7; other++) {
                y.setBorder(7, other, 99);
            }
            y.fix(7, true);
            dueRow(row(3, 15, 99, 1, 127, 693, 7, 1, 7), country(y, 7));
        });
        test("18: 8 tells no colour if none goes, and one that it has only if it is not wrong", () -> {
            BorderPaints x = map(0, 0, 1, 2, 3);
            x.setBorder(0, 2, 1);
            x.setBorder(0, 3, 1);
            x.setBorder(0, 4, 1);
            due(1, x.country(0, 8));
            x.setBorder(0, 1, 1);
            due(0, x.country(0, 8));
            x.allow(0, 14);
            x.setBorder(0, 3, 0);
            due(4, x.country(0, 8));
        });
        test("18: 8 looks at the country alone: all else as it is, also what is wrong elsewhere, also if fixed", () -> {
            BorderPaints x = map(0, 1, 1);
            x.setBorder(0, 1, 1);
            x.setBorder(1, 2, 1);
            x.fix(0, true);
            due(13, x.country(0, 8));
            due(12, x.country(1, 8));
        });
        test("18: 6, 7 and 8 look at the country 7 too", () -> {
            BorderPaints x = map(3, 0, 0, 0, 0, 0, 0, 3);
            x.setBorder(0, 7, 1);
            due(1, x.country(0, 6));
            due(1, x.country(0, 7));
            due(7, x.country(0, 8));
            due(7, x.country(7, 8));
        });
        test("18: 8 does not change what is so", () -> {
            BorderPaints x = map(2, 2);
            x.setBorder(0, 1, 1);
            due(11, x.country(0, 8));
            due(2, x.country(0, 0));
            due(1, x.country(0, 7));
        });
    }

    private static void p19Border() {
        test("19: UNKNOWN (country or other) for every number of no country", () -> {
            BorderPaints x = three();
            for (int number : NOT_IN_THREE) {
                due(UNKNOWN, x.border(number, 0));
                due(UNKNOWN, x.border(0, number));
            }
        });
        test("19: UNKNOWN is before BAD_VALUE", () -> due(UNKNOWN, three().border(3, 3)));
        test("19: BAD_VALUE if both are the same", () -> {
            due(BAD_VALUE, three().border(0, 0));
            due(BAD_VALUE, three().border(2, 2));
        });
        test("19: the length, 1 to 99, in both orders; 0 if they have none", () -> {
            BorderPaints x = three();
            due(0, x.border(0, 1));
            x.setBorder(0, 1, 1);
            x.setBorder(2, 1, 99);
            due(1, x.border(1, 0));
            due(99, x.border(1, 2));
            due(0, x.border(2, 0));
            x.setBorder(2, 1, 0);
            due(0, x.border(1, 2));
        });
    }

    private static void p20BorderAt() {
        test("20: BAD_VALUE if place is negative", () -> {
            due(BAD_VALUE, givers().borderAt(-1));
            due(BAD_VALUE, givers().borderAt(LOW));
            due(BAD_VALUE, new BorderPaints().borderAt(-1));
        });
        test("20: NONE if there are not so many", () -> {
            due(1, givers().borderAt(0));
            due(2, givers().borderAt(1));
            due(NONE, givers().borderAt(2));
            due(NONE, givers().borderAt(27));
            due(NONE, givers().borderAt(28));
            due(NONE, givers().borderAt(HIGH));
            due(NONE, new BorderPaints().borderAt(0));
        });
        test("20: 10 * the lower number + the greater one, in whatever order they were told", () -> {
            BorderPaints x = map(0, 0, 0, 0, 0, 0, 0, 0);
            x.setBorder(7, 0, 1);
            x.setBorder(7, 6, 1);
            x.setBorder(0, 1, 1);
            dueRow(row(7001, 67001, 1001), borders(x));
        });
        test("20: one whose length became another one keeps its place", () -> {
            BorderPaints x = givers();
            x.setBorder(1, 2, 3);
            x.setBorder(1, 0, 99);
            x.setBorder(2, 0, 1);
            dueRow(row(1099, 2001, 12003), borders(x));
        });
        test("20: one that was gone comes anew: the first, one between, the last", () -> {
            BorderPaints x = givers();
            x.setBorder(1, 2, 3);
            x.setBorder(0, 2, 0);
            dueRow(row(1010, 12003), borders(x));
            x.setBorder(0, 2, 4);
            dueRow(row(1010, 12003, 2004), borders(x));
            x.setBorder(0, 1, 0);
            x.setBorder(0, 1, 5);
            dueRow(row(12003, 2004, 1005), borders(x));
            x.setBorder(0, 1, 0);
            x.setBorder(0, 1, 6);
            dueRow(row(12003, 2004, 1006), borders(x));
        });
        test("20: all 28 borders gone and come anew", () -> {
            BorderPaints x = map(0, 0, 0, 0, 0, 0, 0, 0);
            for (int length = 3; length >= 0; length -= 3) {
                for (int one = 0; one < 8; one++) {
                    for (int other = one + 1; other < 8; other++) {
                        x.setBorder(one, other, length);
                    }
                }
                due(length == 0 ? 0 : 28, x.count(2));
                due(length == 0 ? NONE : 67, x.borderAt(27));
            }
            x.setBorder(6, 7, 1);
            due(67, x.borderAt(0));
            due(NONE, x.borderAt(1));
        });
    }

    private static void p21Forbidden() {
        test("21: colour 0 to 3, other 0 to 3", () -> {
            BorderPaints x = new BorderPaints();
            for (int colour : NO_COLOURS) {
                due(BAD_VALUE, x.forbidden(colour, 0));
                due(BAD_VALUE, x.forbidden(0, colour));
                due(BAD_VALUE, x.forbidden(colour, colour));
            }
            due(1, x.forbidden(0, 0));
            due(1, x.forbidden(3, 3));
            due(0, x.forbidden(0, 3));
            due(0, x.forbidden(3, 0));
        });
    }

    /** Two neighbours that may have the same one colour alone: there is no repaint. */
    private static BorderPaints withoutRepaint() {
        BorderPaints x = map(0, 1, 2);
        x.setBorder(0, 1, 1);
        x.allow(0, 4);
        x.allow(1, 4);
        return x;
    }

    private static void p22LeastRepaint() {
        test("22: what 0 or 1", () -> {
            int[] bad = {-1, 2, 3, 256, LOW, HIGH};
            for (int what : bad) {
                due(BAD_VALUE, map(0).leastRepaint(what));
            }
            due(0, map(0).leastRepaint(0));
            due(0, map(0).leastRepaint(1));
        });
        test("22: BAD_VALUE is before NOT_POSSIBLE", () -> {
            due(BAD_VALUE, withoutRepaint().leastRepaint(2));
            due(BAD_VALUE, withoutRepaint().leastRepaint(-1));
        });
        test("22: NOT_POSSIBLE if there is none", () -> {
            due(NOT_POSSIBLE, withoutRepaint().leastRepaint(0));
            due(NOT_POSSIBLE, withoutRepaint().leastRepaint(1));
        });
        test("22: tells it and does not make it", () -> {
            BorderPaints x = map(0, 0);
            x.setBorder(0, 1, 1);
            due(1, x.leastRepaint(0));
            due(2, x.leastRepaint(1));
            dueRow(row(0, 0), colours(x));
            due(3, x.count(10));
        });
    }

    private static void p23Repainted() {
        test("23: UNKNOWN for every number of no country, also before NOT_POSSIBLE", () -> {
            BorderPaints x = three();
            BorderPaints y = withoutRepaint();
            for (int number : NOT_IN_THREE) {
                due(UNKNOWN, x.repainted(number));
                due(UNKNOWN, y.repainted(number));
            }
        });
        test("23: NOT_POSSIBLE if there is none, for a country that is not wrong too", () -> {
            due(NOT_POSSIBLE, withoutRepaint().repainted(0));
            due(NOT_POSSIBLE, withoutRepaint().repainted(2));
        });
        test("23: the lowest colour and the highest one", () -> {
            BorderPaints x = map(1, 1);
            x.allow(0, 9);
            x.allow(1, 8);
            due(0, x.repainted(0));
            due(3, x.repainted(1));
        });
    }

    private static void p24WouldCost() {
        test("24: UNKNOWN (country or other) for every number of no country", () -> {
            BorderPaints x = three();
            for (int number : NOT_IN_THREE) {
                due(UNKNOWN, x.wouldCost(number, 0));
                due(UNKNOWN, x.wouldCost(0, number));
            }
        });
        test("24: UNKNOWN is before BAD_VALUE", () -> due(UNKNOWN, three().wouldCost(3, 3)));
        test("24: BAD_VALUE if both are the same, before NOT_POSSIBLE", () -> {
            due(BAD_VALUE, three().wouldCost(1, 1));
            due(BAD_VALUE, withoutRepaint().wouldCost(1, 1));
        });
        test("24: NOT_POSSIBLE if there would be no repaint, though there is one now", () -> {
            BorderPaints x = map(0, 1, 2);
            x.allow(0, 8);
            x.allow(1, 8);
            due(NOT_POSSIBLE, x.wouldCost(0, 1));
            due(2, x.wouldCost(0, 2));
            due(2, x.leastRepaint(0));
        });
        test("24: NOT_POSSIBLE for two fixed ones of one colour", () -> {
            BorderPaints x = map(0, 0);
            x.fix(0, true);
            due(1, x.wouldCost(0, 1));
            x.fix(1, true);
            due(NOT_POSSIBLE, x.wouldCost(0, 1));
        });
        test("24: 0 if it goes as it is, the sum of weights above 99 if not", () -> {
            BorderPaints x = new BorderPaints();
            x.addCountry(0, 99);
            x.addCountry(0, 98);
            x.addCountry(1, 97);
            x.forbid(0, 1, true);
            x.forbid(0, 2, true);
            x.forbid(0, 3, true);
            due(98, x.wouldCost(1, 2));
            due(99 + 98, x.wouldCost(0, 1));
            x.forbid(0, 0, false);
            due(0, x.wouldCost(0, 1));
        });
        test("24: in both orders, beside all borders that there are", () -> {
            BorderPaints x = map(0, 1, 1);
            x.setBorder(0, 1, 1);
            x.setBorder(0, 2, 1);
            x.allow(0, 3);
            x.allow(1, 3);
            x.allow(2, 3);
            due(0, x.leastRepaint(0));
            due(NOT_POSSIBLE, x.wouldCost(1, 2));
            due(NOT_POSSIBLE, x.wouldCost(2, 1));
            x.allow(2, 7);
            due(1, x.wouldCost(1, 2));
            due(1, x.wouldCost(2, 1));
            due(0, x.leastRepaint(0));
        });
        test("24: if they have one already it is the cost of the least repaint", () -> {
            BorderPaints x = map(0, 0, 1);
            x.setBorder(0, 1, 5);
            due(1, x.wouldCost(0, 1));
            due(1, x.wouldCost(1, 0));
            due(5, x.border(0, 1));
        });
    }

    private static void p25Repaints() {
        test("25: from none to 4 to the power of 8", () -> {
            due(0, withoutRepaint().repaints());
            due(1, new BorderPaints().repaints());
            due(4, map(0).repaints());
            due(65536, map(0, 1, 2, 3, 0, 1, 2, 3).repaints());
        });
        test("25: with all borders and no pair forbidden too; and with all pairs forbidden none", () -> {
            BorderPaints x = map(0, 1, 2, 3, 0, 1, 2, 3);
            for (int pair = 0; pair < 64; pair++) {
                if (pair / 8 < pair % 8) {
                    x.setBorder(pair / 8, pair % 8, 1);
                }
            }
            due(0, x.repaints());
            for (int colour = 0; colour < 4; colour++) {
                x.forbid(colour, colour, false);
            }
            due(65536, x.repaints());
        });
        test("25: four that all have borders with one another have 24, five have none", () -> {
            BorderPaints x = map(0, 0, 0, 0);
            for (int pair = 0; pair < 16; pair++) {
                if (pair / 4 < pair % 4) {
                    x.setBorder(pair / 4, pair % 4, 1);
                }
            }
            due(24, x.repaints());
            x.addCountry(0, 1);
            due(96, x.repaints());
            for (int other = 0; other < 4; other++) {
                x.setBorder(4, other, 1);
            }
            due(0, x.repaints());
        });
        test("25: countries that were joined have no part in it", () -> {
            BorderPaints x = map(0, 1, 2);
            x.setBorder(0, 1, 1);
            x.setBorder(1, 2, 1);
            due(36, x.repaints());
            x.join(0, 1);
            due(12, x.repaints());
        });
    }

    private static void p26Freedom() {
        test("26: UNKNOWN for every number of no country, also if there is no repaint", () -> {
            BorderPaints x = three();
            BorderPaints y = withoutRepaint();
            for (int number : NOT_IN_THREE) {
                due(UNKNOWN, x.freedom(number));
                due(UNKNOWN, y.freedom(number));
            }
        });
        test("26: 0 if there is no repaint, for each country", () -> {
            for (int country = 0; country < 3; country++) {
                due(0, withoutRepaint().freedom(country));
            }
        });
        test("26: 15 at most, the colours it may have, one if it is fixed", () -> {
            BorderPaints x = map(3);
            due(15, x.freedom(0));
            x.allow(0, 10);
            due(10, x.freedom(0));
            x.fix(0, true);
            due(8, x.freedom(0));
            x.allow(0, 2);
            due(0, x.freedom(0));
        });
        test("26: what comes after a country that was joined counts", () -> {
            BorderPaints x = map(0, 0, 0, 0);
            x.setBorder(0, 3, 1);
            x.join(0, 3);
            x.setBorder(1, 2, 1);
            x.allow(1, 8);
            due(8, x.freedom(1));
            due(7, x.freedom(2));
            x.allow(2, 8);
            due(0, x.freedom(2));
            due(0, x.freedom(3));
        });
        test("26: in any repaint, not only in the least one, also far from what is fixed", () -> {
            BorderPaints x = map(0, 1, 0, 1, 0, 1, 0, 1);
            for (int country = 0; country < 7; country++) {
                x.setBorder(country, country + 1, 1);
                x.allow(country, 3);
            }
            due(3, x.freedom(6));
            due(15, x.freedom(7));
            x.fix(0, true);
            due(1, x.freedom(6));
            due(14, x.freedom(7));
        });
    }

    private static void p27FewestColours() {
        test("27: NOT_POSSIBLE if there is none", () -> due(NOT_POSSIBLE, withoutRepaint().fewestColours()));
        test("27: from 0 (no countries) to 4", () -> {
            due(0, new BorderPaints().fewestColours());
            due(1, map(0, 1, 2, 3, 3, 3, 3, 3).fewestColours());
            BorderPaints x = map(0, 0, 0, 0);
            for (int country = 0; country < 4; country++) {
                x.allow(country, 1 << country);
            }
            due(4, x.fewestColours());
            x.allow(3, 9);
            due(3, x.fewestColours());
        });
        test("27: the country 7 counts as the others, and those after one that was joined", () -> {
            BorderPaints x = map(0, 0, 0, 0, 0, 0, 0, 0);
            x.setBorder(0, 1, 1);
            x.join(0, 1);
            due(1, x.fewestColours());
            x.allow(7, 2);
            x.allow(6, 13);
            due(2, x.fewestColours());
            x.allow(1, 4);
            x.allow(6, 9);
            due(3, x.fewestColours());
        });
        test("27: a repaint with the highest colour at a country that has neighbours after it", () -> {
            BorderPaints x = map(0, 0);
            x.setBorder(0, 1, 1);
            x.allow(0, 8);
            due(2, x.fewestColours());
            due(8, x.freedom(0));
            due(7, x.freedom(1));
        });
        test("27: of any repaint, not of the least one", () -> {
            BorderPaints x = map(0, 1, 2);
            x.setBorder(0, 1, 1);
            due(2, x.fewestColours());
            due(3, x.count(8));
        });
        test("27: two that only the highest colours make", () -> {
            BorderPaints x = map(0, 0, 0);
            x.allow(0, 4);
            x.allow(1, 8);
            due(2, x.fewestColours());
            x.allow(2, 3);
            due(3, x.fewestColours());
        });
    }

    private static void p28Chain() {
        test("28: UNKNOWN for every number of no country", () -> {
            BorderPaints x = three();
            for (int number : NOT_IN_THREE) {
                due(UNKNOWN, x.chain(number, 3));
            }
        });
        test("28: colour 0 to 3", () -> {
            BorderPaints x = three();
            for (int colour : NO_COLOURS) {
                due(BAD_VALUE, x.chain(1, colour));
            }
            due(2, x.chain(1, 0));
            due(2, x.chain(1, 3));
        });
        test("28: BAD_VALUE also if it is its own colour", () -> {
            for (int country = 0; country < 3; country++) {
                due(BAD_VALUE, three().chain(country, country));
            }
        });
        test("28: UNKNOWN is before BAD_VALUE", () -> due(UNKNOWN, three().chain(3, 4)));
        test("28: is told also if it can't be exchanged", () -> {
            BorderPaints x = map(0, 1);
            x.setBorder(0, 1, 1);
            x.fix(1, true);
            x.allow(0, 1);
            due(3, x.chain(0, 1));
            due(NOT_POSSIBLE, x.exchange(0, 1));
        });
    }

    private static void p29Count() {
        test("29: what 0 to 11", () -> {
            int[] bad = {-1, -11, 12, 13, 16, 32, 256, 65536, LOW, HIGH};
            for (int what : bad) {
                due(BAD_VALUE, map(0).count(what));
            }
            dueRow(row(1, 1, 0, 0, 0, 0, 0, 0, 1, 4, 1, 0), counts(map(0)));
        });
        test("29: the most of all", () -> {
            BorderPaints x = map(1, 1, 1, 1, 1, 1, 1, 1);
            for (int pair = 0; pair < 64; pair++) {
                x.forbid(pair / 16, pair % 4, true);
                if (pair / 8 < pair % 8) {
                    x.setBorder(pair / 8, pair % 8, 99);
                }
            }
            for (int country = 0; country < 8; country++) {
                x.fix(country, true);
            }
            for (int i = 0; i < 61; i++) {
                x.type('0');
            }
            dueRow(row(255, 8, 28, 2772, 28, 2772, 255, 255, 1, 10, 4, 60), counts(x));
        });
        test("29: 8 tells different colours, of countries that are there, 1 to 4", () -> {
            due(4, map(3, 2, 1, 0, 3, 2, 1, 0).count(8));
            due(1, map(3, 3, 3, 3, 3, 3, 3, 3).count(8));
            due(2, map(0, 0, 0, 0, 0, 0, 0, 3).count(8));
            BorderPaints x = map(0, 1, 1);
            x.setBorder(0, 1, 1);
            due(2, x.count(8));
            x.join(0, 1);
            due(1, x.count(8));
        });
        test("29: 9 tells each pair once, a colour and itself too, 0 to 10", () -> {
            BorderPaints x = new BorderPaints();
            int pairs = 4;
            for (int one = 0; one < 4; one++) {
                for (int other = one + 1; other < 4; other++) {
                    x.forbid(other, one, true);
                    pairs++;
                    due(pairs, x.count(9));
                }
            }
            due(10, x.count(9));
            x.forbid(2, 2, false);
            due(9, x.count(9));
        });
        test("29: 4 and 5 tell only borders in conflict, and their length alone", () -> {
            BorderPaints x = map(0, 0, 1, 1);
            x.setBorder(0, 1, 99);
            x.setBorder(1, 2, 50);
            x.setBorder(2, 3, 1);
            dueRow(row(15, 4, 3, 150, 2, 100, 15, 0, 2, 4, 4, 0), counts(x));
        });
    }

    public static void main(String[] args) {
        p01NewObject();
        p02AddCountry();
        p03Paint();
        p04Allow();
        p05Fix();
        p06Forbid();
        p07SetBorder();
        p08ReadBorders();
        p09Join();
        p10Give();
        p11Repaint();
        p12Exchange();
        p13Type();
        p14ClearText();
        p15Undo();
        p16Keep();
        p17Restore();
        p18Country();
        p19Border();
        p20BorderAt();
        p21Forbidden();
        p22LeastRepaint();
        p23Repainted();
        p24WouldCost();
        p25Repaints();
        p26Freedom();
        p27FewestColours();
        p28Chain();
        p29Count();
        end();
    }
}
