/** The boundary cases of the chapter 'Terms', a test for each sentence, with answers worked out by hand. */
public final class TermsBoundaries extends Checks {
    /** Eight countries of colour 0 and weight 1. */
    private static BorderPaints eight() {
        return map(0, 0, 0, 0, 0, 0, 0, 0);
    }

    /** Lets all countries ever have borders with one another, 28 of them if there are 8. */
    private static void joinAllByBorders(BorderPaints x, int length) {
        for (int one = 0; one < x.count(1); one++) {
            for (int other = one + 1; other < x.count(1); other++) {
                x.setBorder(one, other, length);
            }
        }
    }

    private static void howManyCountries() {
        test("There are at most 8 countries ever", () -> {
            BorderPaints x = map(0, 0, 0, 0, 0, 0, 0);
            due(7, x.addCountry(0, 1));
            due(FULL, x.addCountry(0, 1));
            due(8, x.count(1));
            due(255, x.count(0));
        });
        test("At most 8 ever: one that was joined counts", () -> {
            BorderPaints x = eight();
            x.setBorder(7, 0, 1);
            due(0, x.join(7, 0));
            due(127, x.count(0));
            due(8, x.count(1));
            due(FULL, x.addCountry(0, 1));
        });
        test("At most 8 ever: with only one left there is no room either", () -> {
            BorderPaints x = eight();
            for (int country = 1; country < 8; country++) {
                x.setBorder(country, 0, 1);
                due(0, x.join(country, 0));
            }
            due(1, x.count(0));
            due(8, x.country(0, 2));
            due(FULL, x.addCountry(0, 1));
        });
        test("At most 8 ever, which is of the state: undo makes room for one", () -> {
            BorderPaints x = eight();
            due(3, x.undo());
            due(7, x.addCountry(3, 9));
            due(3, x.country(7, 0));
            due(FULL, x.addCountry(0, 1));
        });
        test("At most 8 ever, which is of the state: restore makes room, and takes it", () -> {
            BorderPaints x = eight();
            x.undo();
            x.undo();
            x.keep();
            due(6, x.addCountry(1, 1));
            due(7, x.addCountry(1, 1));
            due(6, x.restore());
            due(6, x.addCountry(2, 1));
            due(7, x.addCountry(2, 1));
            due(FULL, x.addCountry(2, 1));
            x.keep();
            x.undo();
            due(8, x.restore());
            due(FULL, x.addCountry(2, 1));
        });
        test("Numbered from 0, also those that come after one was joined", () -> {
            BorderPaints x = new BorderPaints();
            due(0, x.addCountry(0, 1));
            due(1, x.addCountry(0, 1));
            x.setBorder(0, 1, 1);
            x.join(0, 1);
            due(2, x.addCountry(0, 1));
            due(6, x.count(0));
        });
    }

    private static void whatCountriesHave() {
        test("A country is there until it is joined to another one", () -> {
            BorderPaints x = map(0, 1);
            x.setBorder(0, 1, 1);
            due(0, x.country(0, 0));
            due(0, x.join(0, 1));
            due(UNKNOWN, x.country(0, 0));
            due(1, x.country(1, 0));
            due(2, x.count(0));
            due(3, x.undo());
            due(0, x.country(0, 0));
        });
        test("A colour is 0 to 3", () -> {
            BorderPaints x = new BorderPaints();
            due(0, x.addCountry(0, 1));
            due(1, x.addCountry(3, 1));
            due(0, x.country(0, 0));
            due(3, x.country(1, 0));
            due(BAD_VALUE, x.addCountry(4, 1));
            due(BAD_VALUE, x.addCountry(-1, 1));
        });
        test("The colours that it may have are at first 15, also next to others that may have less", () -> {
            BorderPaints x = map(0);
            x.allow(0, 1);
            x.addCountry(0, 1);
            due(15, x.country(1, 1));
        });
        test("A set of colours is 1 to 15: never the empty one, also not by joining", () -> {
            BorderPaints x = map(0, 1);
            x.setBorder(0, 1, 1);
            x.allow(0, 5);
            x.allow(1, 10);
            due(NOT_POSSIBLE, x.join(0, 1));
            due(NOT_POSSIBLE, x.join(1, 0));
            due(10, x.country(1, 1));
            x.allow(1, 14);
            due(0, x.join(0, 1));
            due(4, x.country(1, 1));
        });
        test("Its colour need not be in it: by allow, by paint, by join", () -> {
            BorderPaints x = map(0, 3);
            due(15, x.allow(0, 14));
            due(0, x.country(0, 0));
            due(1, x.count(6));
            due(14, x.allow(0, 1));
            due(1, x.paint(0, 3));
            due(3, x.country(0, 0));
            x.setBorder(0, 1, 1);
            due(0, x.join(0, 1));
            due(3, x.country(1, 0));
            due(1, x.country(1, 1));
            due(2, x.count(6));
        });
        test("A weight is 1 to 99", () -> {
            BorderPaints x = new BorderPaints();
            due(BAD_VALUE, x.addCountry(0, 0));
            due(0, x.addCountry(0, 1));
            due(1, x.addCountry(0, 99));
            due(BAD_VALUE, x.addCountry(0, 100));
            due(1, x.country(0, 2));
            due(99, x.country(1, 2));
        });
        test("A country is at first not fixed, also if all the others are", () -> {
            BorderPaints x = map(0, 1);
            x.fix(0, true);
            x.fix(1, true);
            x.addCountry(0, 1);
            due(0, x.country(2, 3));
            due(3, x.count(7));
        });
    }

    private static void borders() {
        test("Two countries have at first no border, also a new one among neighbours", () -> {
            BorderPaints x = map(0, 1);
            due(0, x.border(0, 1));
            x.setBorder(0, 1, 1);
            x.addCountry(2, 1);
            due(0, x.border(0, 2));
            due(0, x.border(2, 1));
            due(0, x.country(2, 4));
            due(1, x.count(2));
        });
        test("A length is 1 to 99", () -> {
            BorderPaints x = map(0, 1);
            due(0, x.setBorder(0, 1, 1));
            due(1, x.border(0, 1));
            due(1, x.setBorder(0, 1, 99));
            due(99, x.border(0, 1));
            due(BAD_VALUE, x.setBorder(0, 1, 100));
            due(99, x.border(0, 1));
        });
        test("All of the 8 have borders with one another: 28 borders", () -> {
            BorderPaints x = eight();
            joinAllByBorders(x, 99);
            due(28, x.count(2));
            due(28 * 99, x.count(3));
            due(28, x.count(4));
            due(28 * 99, x.count(5));
            due(255, x.count(6));
            due(127, x.country(7, 4));
            due(254, x.country(0, 4));
            due(7 * 99, x.country(7, 5));
            due(7, x.country(0, 6));
            due(67, x.borderAt(27));
            due(NONE, x.borderAt(28));
        });
        test("Countries with a border are neighbours, as long as they have it", () -> {
            BorderPaints x = map(0, 0, 0);
            x.setBorder(0, 2, 1);
            due(4, x.country(0, 4));
            due(0, x.country(1, 4));
            due(1, x.country(2, 4));
            x.setBorder(2, 0, 0);
            due(0, x.country(0, 4));
            due(0, x.country(2, 4));
        });
        test("At first just each colour and itself is forbidden", () -> {
            int[] want = {1, 0, 0, 0, 0, 1, 0, 0, 0, 0, 1, 0, 0, 0, 0, 1};
            dueRow(want, forbiddenPairs(new BorderPaints()));
        });
        test("For each pair it is told, also for a colour and itself: none is forbidden, all are", () -> {
            BorderPaints x = map(0, 0, 1);
            joinAllByBorders(x, 1);
            due(1, x.count(4));
            for (int colour = 0; colour < 4; colour++) {
                due(0, x.forbid(colour, colour, false));
            }
            due(0, x.count(9));
            due(0, x.count(4));
            due(64, x.repaints());
            for (int pair = 0; pair < 16; pair++) {
                x.forbid(pair / 4, pair % 4, true);
            }
            due(10, x.count(9));
            due(3, x.count(4));
            due(0, x.repaints());
            due(0, x.country(0, 8));
        });
        test("A border is in conflict if its colours are a forbidden pair, in either order", () -> {
            BorderPaints x = map(1, 0);
            x.setBorder(0, 1, 7);
            due(0, x.count(4));
            due(1, x.forbid(0, 1, true));
            due(1, x.country(0, 6));
            due(1, x.country(1, 6));
            due(7, x.count(5));
            due(0, x.forbid(1, 0, false));
            due(0, x.count(5));
        });
        test("Countries without a border are in no conflict", () -> {
            BorderPaints x = map(2, 2);
            due(0, x.count(4));
            due(0, x.count(6));
            due(0, x.country(0, 7));
        });
    }

    private static void wrongAndGood() {
        test("A country is wrong if its colour is not one that it may have", () -> {
            BorderPaints x = map(2);
            x.allow(0, 11);
            due(1, x.country(0, 7));
            due(0, x.country(0, 6));
            x.allow(0, 4);
            due(0, x.country(0, 7));
        });
        test("Or if any of its borders is in conflict, the last of seven too", () -> {
            BorderPaints x = map(1, 1, 1, 1, 1, 1, 1, 0);
            for (int other = 0; other < 7; other++) {
                x.setBorder(7, other, 1);
            }
            due(0, x.country(7, 7));
            due(192, x.paint(6, 0));
            due(1, x.country(7, 7));
            due(1, x.country(7, 6));
            due(0, x.country(5, 7));
        });
        test("A country is wrong once, also by both", () -> {
            BorderPaints x = map(0, 0);
            x.setBorder(0, 1, 1);
            x.allow(0, 2);
            due(1, x.country(0, 7));
            due(3, x.count(6));
            x.paint(1, 1);
            due(1, x.count(6));
        });
        test("A painting is of the countries that are there: one that was joined is never wrong", () -> {
            BorderPaints x = map(0, 1, 1);
            x.allow(0, 6);
            x.setBorder(0, 1, 1);
            due(1, x.count(6));
            due(0, x.join(0, 1));
            due(0, x.count(6));
            due(NONE, x.repaint());
            due(2 * 4, x.repaints());
        });
        test("A painting without countries is good: one repaint, which costs nothing", () -> {
            BorderPaints x = new BorderPaints();
            due(NONE, x.repaint());
            due(1, x.repaints());
            due(0, x.leastRepaint(0));
            due(0, x.leastRepaint(1));
            due(0, x.fewestColours());
        });
    }

    private static void repaints() {
        test("In a repaint the fixed countries have the colours that they have now: all are fixed", () -> {
            BorderPaints x = map(0, 1, 2);
            for (int country = 0; country < 3; country++) {
                x.fix(country, true);
            }
            due(1, x.repaints());
            due(0, x.leastRepaint(0));
            due(2, x.freedom(1));
            due(3, x.fewestColours());
        });
        test("A repaint is good: none if a fixed country has a colour that it may not have", () -> {
            BorderPaints x = map(0, 1);
            x.allow(1, 13);
            x.fix(1, true);
            due(0, x.repaints());
            due(NOT_POSSIBLE, x.leastRepaint(0));
            due(0, x.freedom(0));
        });
        test("A repaint is good: none if two fixed countries are in conflict", () -> {
            BorderPaints x = map(0, 0, 1);
            x.setBorder(0, 1, 1);
            x.fix(0, true);
            due(3 * 4, x.repaints());
            x.fix(1, true);
            due(0, x.repaints());
            due(NOT_POSSIBLE, x.repainted(2));
        });
        test("Its cost is the sum of the weights, which is not held at 99", () -> {
            BorderPaints x = new BorderPaints();
            for (int country = 0; country < 8; country++) {
                x.addCountry(0, 99);
                x.allow(country, 2);
            }
            due(8 * 99, x.leastRepaint(0));
            due(255, x.leastRepaint(1));
            due(8 * 99, x.repaint());
            due(1, x.repaints());
            due(1, x.count(8));
        });
        test("Of the countries whose colours differ: a good painting costs 0", () -> {
            BorderPaints x = map(0, 1);
            x.setBorder(0, 1, 1);
            due(0, x.leastRepaint(0));
            due(0, x.leastRepaint(1));
            due(0, x.repainted(0));
            due(1, x.repainted(1));
        });
        test("The least cost is before the lower colour", () -> {
            BorderPaints x = new BorderPaints();
            x.addCountry(3, 2);
            x.addCountry(3, 1);
            x.setBorder(0, 1, 1);
            due(1, x.leastRepaint(0));
            due(3, x.repainted(0));
            due(0, x.repainted(1));
        });
        test("Of several the lower colour at the first country at which they differ: its own is the lower one", () -> {
            BorderPaints x = map(0, 0);
            x.setBorder(0, 1, 1);
            due(0, x.repainted(0));
            due(1, x.repainted(1));
        });
        test("Of several the lower colour at the first country at which they differ: another is the lower one", () -> {
            BorderPaints x = map(3, 3);
            x.setBorder(0, 1, 1);
            due(0, x.repainted(0));
            due(3, x.repainted(1));
        });
        test("Not the one that changes fewer countries, if both cost as much", () -> {
            BorderPaints x = new BorderPaints();
            x.addCountry(1, 1);
            x.addCountry(1, 1);
            x.addCountry(1, 2);
            x.setBorder(0, 2, 1);
            x.setBorder(1, 2, 1);
            due(2, x.leastRepaint(0));
            due(3, x.leastRepaint(1));
            due(0, x.repainted(0));
            due(0, x.repainted(1));
            due(1, x.repainted(2));
        });
        test("They differ only at the last of 8", () -> {
            BorderPaints x = map(0, 0, 0, 0, 0, 0, 1, 1);
            x.setBorder(6, 7, 1);
            x.fix(6, true);
            due(1, x.leastRepaint(0));
            due(128, x.leastRepaint(1));
            due(0, x.repainted(7));
            x.allow(7, 12);
            due(2, x.repainted(7));
            x.allow(7, 8);
            due(3, x.repainted(7));
        });
    }

    private static void chains() {
        test("A chain holds the country itself, also without borders", () -> {
            due(1, map(0, 0, 1).chain(0, 1));
            due(128, eight().chain(7, 3));
        });
        test("Not one with either colour that can't be reached", () -> {
            BorderPaints x = map(0, 1, 0, 1);
            x.setBorder(0, 1, 1);
            x.setBorder(2, 3, 1);
            due(3, x.chain(0, 1));
            due(12, x.chain(3, 0));
        });
        test("Over borders, in conflict or not", () -> {
            BorderPaints x = map(0, 0, 1, 1);
            x.setBorder(0, 1, 1);
            x.setBorder(1, 2, 1);
            x.setBorder(2, 3, 1);
            due(15, x.chain(0, 1));
            due(3, x.chain(0, 2));
            x.forbid(0, 1, true);
            due(15, x.chain(3, 0));
        });
        test("Through such countries only: a third colour parts the chain", () -> {
            BorderPaints x = map(0, 2, 1);
            x.setBorder(0, 1, 1);
            x.setBorder(1, 2, 1);
            due(1, x.chain(0, 1));
            due(3, x.chain(0, 2));
            due(6, x.chain(2, 2));
        });
        test("The longest chain goes through all 8, against the order of their numbers", () -> {
            BorderPaints x = map(0, 1, 0, 1, 0, 1, 0, 1);
            for (int country = 7; country > 0; country--) {
                x.setBorder(country, country - 1, 1);
            }
            due(255, x.chain(7, 0));
            due(255, x.chain(0, 1));
            due(8, x.exchange(7, 0));
            dueRow(row(1, 0, 1, 0, 1, 0, 1, 0), colours(x));
        });
        test("Exchanging gives each the other one of both colours, and no other country another one", () -> {
            BorderPaints x = map(3, 0, 3, 1, 0);
            x.setBorder(0, 1, 1);
            x.setBorder(1, 2, 1);
            x.setBorder(2, 3, 1);
            x.setBorder(3, 4, 1);
            due(3, x.exchange(1, 3));
            dueRow(row(0, 3, 0, 1, 0), colours(x));
        });
    }

    /** Two countries that are joined, both with a border with the third one; tells its length then. */
    private static int joinedLength(int one, int other) {
        BorderPaints x = map(0, 1, 2);
        x.setBorder(0, 1, 99);
        x.setBorder(0, 2, one);
        x.setBorder(1, 2, other);
        due(1, x.join(0, 1));
        due(1, x.count(2));
        due(x.border(1, 2), x.count(3));
        return x.border(1, 2);
    }

    private static int joinedWeight(int one, int other) {
        BorderPaints x = new BorderPaints();
        x.addCountry(0, one);
        x.addCountry(1, other);
        x.setBorder(0, 1, 1);
        due(0, x.join(0, 1));
        return x.country(1, 2);
    }

    private static void joining() {
        test("Where both have a border with a third country, the lengths are added", () -> {
            due(2, joinedLength(1, 1));
            due(98, joinedLength(49, 49));
            due(99, joinedLength(49, 50));
            due(99, joinedLength(1, 98));
        });
        test("But not above 99", () -> {
            due(99, joinedLength(50, 50));
            due(99, joinedLength(1, 99));
            due(99, joinedLength(99, 1));
            due(99, joinedLength(99, 99));
        });
        test("Each sum by itself: what is above 99 at one border does not go to another", () -> {
            BorderPaints x = map(0, 1, 2, 3);
            x.setBorder(0, 1, 1);
            x.setBorder(0, 2, 99);
            x.setBorder(1, 2, 99);
            x.setBorder(0, 3, 1);
            x.setBorder(1, 3, 2);
            due(2, x.join(0, 1));
            dueRow(row(12099, 13003), borders(x));
        });
        test("The border between both is gone", () -> {
            BorderPaints x = map(0, 1);
            x.setBorder(0, 1, 99);
            due(0, x.join(1, 0));
            due(0, x.count(2));
            due(0, x.count(3));
            due(0, x.country(0, 4));
            due(NONE, x.borderAt(0));
        });
        test("Borders that are new to the other one come at the end, in the order of those that they replace", () -> {
            BorderPaints x = map(0, 1, 2, 3, 0, 1);
            x.setBorder(5, 1, 5);
            x.setBorder(4, 1, 4);
            x.setBorder(1, 2, 12);
            x.setBorder(3, 1, 3);
            x.setBorder(5, 4, 9);
            due(3, x.join(1, 2));
            dueRow(row(45009, 25005, 24004, 23003), borders(x));
        });
        test("Borders that the other one has already keep their places", () -> {
            BorderPaints x = map(0, 1, 2, 3, 0);
            x.setBorder(2, 4, 1);
            x.setBorder(1, 4, 2);
            x.setBorder(1, 3, 3);
            x.setBorder(2, 3, 4);
            x.setBorder(1, 0, 5);
            x.setBorder(1, 2, 6);
            due(3, x.join(1, 2));
            dueRow(row(24003, 23007, 2005), borders(x));
        });
        test("The set becomes the colours that both may have, as few as one", () -> {
            BorderPaints x = map(0, 1);
            x.setBorder(0, 1, 1);
            x.allow(0, 9);
            x.allow(1, 12);
            due(0, x.join(0, 1));
            due(8, x.country(1, 1));
        });
        test("The weight is the sum of both", () -> {
            due(2, joinedWeight(1, 1));
            due(98, joinedWeight(49, 49));
            due(99, joinedWeight(50, 49));
            due(99, joinedWeight(98, 1));
        });
        test("The weight is not above 99", () -> {
            due(99, joinedWeight(50, 50));
            due(99, joinedWeight(99, 1));
            due(99, joinedWeight(1, 99));
            due(99, joinedWeight(99, 99));
        });
        test("The other one keeps its colour, and the sum of weights is its cost then", () -> {
            BorderPaints x = new BorderPaints();
            x.addCountry(0, 60);
            x.addCountry(1, 30);
            x.setBorder(0, 1, 1);
            x.join(0, 1);
            due(1, x.country(1, 0));
            x.allow(1, 8);
            due(90, x.leastRepaint(0));
        });
        test("The joined country is not there any more, with nothing that it had", () -> {
            BorderPaints x = map(0, 1, 2);
            x.setBorder(0, 1, 3);
            x.setBorder(0, 2, 4);
            due(1, x.join(0, 1));
            dueRow(row(6, 3, 1, 4, 0, 0, 0, 0, 2, 4, 4, 0), counts(x));
            due(UNKNOWN, x.border(0, 2));
            due(UNKNOWN, x.join(0, 2));
            due(UNKNOWN, x.join(2, 0));
            due(0, x.join(1, 2));
        });
        test("Of 8 with all borders seven are joined to the last one", () -> {
            BorderPaints x = eight();
            joinAllByBorders(x, 30);
            int[] lengths = {60, 90, 99, 99, 99, 99};
            for (int country = 0; country < 7; country++) {
                due(6 - country, x.join(country, 7));
                if (country < 6) {
                    due(lengths[country], x.border(6, 7));
                }
            }
            due(128, x.count(0));
            due(0, x.count(2));
            due(8, x.country(7, 2));
        });
    }

    /** Country 0 gives a part of its border with 1 to that with 2. */
    private static BorderPaints given(int first, int second, int length, int want) {
        BorderPaints x = map(0, 1, 2);
        x.setBorder(0, 1, first);
        x.setBorder(0, 2, second);
        due(want, x.give(0, 1, 2, length));
        due(want < 0 ? first : want, x.border(0, 1));
        return x;
    }

    private static void giving() {
        test("The first border becomes shorter by some length, the second one longer by as much", () -> {
            due(2, given(10, 1, 1, 9).border(0, 2));
            due(10, given(10, 1, 9, 1).border(0, 2));
            due(0, given(10, 1, 9, 1).border(1, 2));
        });
        test("But not above 99 (what is more is lost)", () -> {
            due(99, given(99, 98, 1, 98).border(0, 2));
            due(99, given(99, 99, 1, 98).border(0, 2));
            due(99, given(99, 99, 98, 1).border(0, 2));
            due(100, given(99, 99, 98, 1).count(3));
            due(99, given(99, 1, 98, 1).border(0, 2));
            due(99, given(99, 2, 98, 1).border(0, 2));
        });
        test("A border of length 0 is gone", () -> {
            BorderPaints x = given(10, 5, 10, 0);
            due(15, x.border(0, 2));
            due(1, x.count(2));
            due(2, x.borderAt(0));
            due(NONE, x.borderAt(1));
            due(4, x.country(0, 4));
            due(0, x.country(1, 4));
            due(NOT_POSSIBLE, x.give(0, 1, 2, 1));
        });
        test("The longest one given as a whole is gone", () -> {
            due(99, given(99, 99, 99, 0).count(3));
            due(99, given(99, 1, 99, 0).border(0, 2));
        });
        test("One that was given as a whole comes anew at the end", () -> {
            BorderPaints x = given(1, 1, 1, 0);
            x.setBorder(0, 1, 7);
            dueRow(row(2002, 1007), borders(x));
        });
        test("Both keep their places if the first one is not gone", () -> {
            dueRow(row(1001, 2003), borders(given(2, 2, 1, 1)));
            BorderPaints x = map(0, 1, 2);
            x.setBorder(1, 2, 5);
            x.setBorder(0, 1, 6);
            due(2, x.give(1, 2, 0, 3));
            dueRow(row(12002, 1009), borders(x));
        });
    }

    private static void texts() {
        test("A text has at most 60 characters", () -> {
            BorderPaints x = new BorderPaints();
            for (int length = 1; length <= 60; length++) {
                due(length, x.type(':'));
            }
            due(FULL, x.type(':'));
            due(60, x.count(11));
        });
        test("The text is empty at first", () -> {
            BorderPaints x = new BorderPaints();
            due(0, x.count(11));
            due(-100, x.readBorders());
            due(0, x.clearText());
        });
        test("A row is one or more borders", () -> {
            due(1, reading("0-1"));
            due(2, reading("0-1,0-2"));
            due(3, reading("0-1,0-2,1-2"));
        });
        test("The most borders that a text has room for are 15", () -> {
            due(15, reading("0-1,0-1,0-1,0-1,0-1,0-1,0-1,0-1,0-1,0-1,0-1,0-1,0-1,0-1,0-1"));
            due(14, reading("0-1,0-1,0-1,0-1,0-1,0-1,0-1,0-1,0-1,0-1,0-1,0-1,0-1,0-1:9"));
            due(14, reading("0-1,0-1,0-1,0-1,0-1,0-1,0-1,0-1,0-1,0-1,0-1,0-1,0-1,0-1:99"));
            due(9, reading("0-1:12,0-2:34,1-2:56,0-1:78,0-2:90,1-2:11,0-1:22,0-2:33,1-2"));
        });
        test("A country is one digit: 8 and 9 are allowed there, but no such country", () -> {
            due(UNKNOWN, reading("0-8"));
            due(UNKNOWN, reading("9-0"));
            due(-103, reading("0-10"));
            due(-101, reading("10-0"));
        });
        test("A length is one or two digits", () -> {
            due(1, reading("0-1:1"));
            due(1, reading("0-1:9"));
            due(1, reading("0-1:10"));
            due(1, reading("0-1:99"));
            due(-104, reading("0-1:"));
            due(-106, reading("0-1:100"));
        });
        test("The first digit of a length is not 0, the second one may be", () -> {
            due(-104, reading("0-1:0"));
            due(-104, reading("0-1:01"));
            due(-104, reading("0-1:00"));
            BorderPaints x = map(0, 1);
            write(x, "0-1:90");
            due(1, x.readBorders());
            due(90, x.border(0, 1));
        });
        test("The length is 1 if it is not told, whatever it was and whatever others are", () -> {
            BorderPaints x = map(0, 1, 2);
            x.setBorder(1, 2, 50);
            write(x, "0-1:77,2-1");
            due(2, x.readBorders());
            due(77, x.border(0, 1));
            due(1, x.border(1, 2));
            write(x, "0-1");
            due(1, x.readBorders());
            due(1, x.border(0, 1));
        });
    }

    /** Tries every character at an index of a row that is right otherwise; the others have their fault there. */
    private static void onlyAllowedAt(int index, String before, String allowed, String after) {
        String odd = "\u00b2\u0130\u012c\u012d\u013a\u0660\u0661\u0967\u2013\u2212\uff0c\uff0d\uff10\uff11\uff1a\uffff";
        due(index, before.length());
        for (int sign = 0; sign < 256 + odd.length(); sign++) {
            char character = sign < 256 ? (char) sign : odd.charAt(sign - 256);
            int answer = reading(before + character + after);
            if (allowed.indexOf(character) < 0) {
                due(-100 - index, answer);
            } else {
                due(0, answer == -100 - index ? 1 : 0);
            }
        }
    }

    private static void faults() {
        test("The fault is the length of a text that ends too early (the empty text does)", () -> {
            int[] want = {-100, -101, -102, 1, -104, 1, 1, -107, -108, -109, 2, -111, 2, 2};
            String whole = "0-1:23,2-0:10";
            for (int length = 0; length <= 13; length++) {
                due(want[length], reading(whole.substring(0, length)));
            }
        });
        test("A text of 60 characters ends too early: the fault is 60", () -> {
            String fourteen = "0-1,0-1,0-1,0-1,0-1,0-1,0-1,0-1,0-1,0-1,0-1,0-1,0-1,0-1";
            due(-160, reading(fourteen + ",0-1,"));
            due(-160, reading(fourteen.substring(0, 51) + ",0-1:12,0"));
            due(-160, reading(fourteen.substring(0, 51) + ",0-1:1,0-"));
            due(-160, reading(fourteen.substring(0, 51) + ",0-1,0-1:"));
        });
        test("The fault may be the last of 60 characters", () -> {
            String ten = "0-1,0-1,0-1,0-1,0-1,0-1,0-1,0-1,0-1,0-1,";
            due(-159, reading(ten + "0-1,0-1,0-1,0-1,0-1-"));
            due(-159, reading(ten + "0-1,0-1,0-1,0-1,0-11"));
            due(-159, reading(ten + "0-1,0-1,0-1:12,0-1:0"));
            due(-159, reading(ten + "0-1:1,0-1:12,0-1:123"));
            due(-159, reading(ten + "0-1:12,0-1:12,0-1:1:"));
        });
        test("A row begins with a digit", () -> onlyAllowedAt(0, "", "0123456789", "-1"));
        test("After the first country comes -", () -> onlyAllowedAt(1, "0", "-", "1"));
        test("After - comes a digit", () -> onlyAllowedAt(2, "0-", "0123456789", ""));
        test("After the second country comes : or ,", () -> onlyAllowedAt(3, "0-1", ":,", "1"));
        test("After : comes a digit from 1", () -> onlyAllowedAt(4, "0-1:", "123456789", ""));
        test("After the first digit of a length comes a digit or ,", () -> onlyAllowedAt(5, "0-1:2", "0123456789,", ""));
        test("After the second digit of a length comes only ,", () -> onlyAllowedAt(6, "0-1:23", ",", ""));
        test("After , comes a digit", () -> onlyAllowedAt(4, "0-1,", "0123456789", "-1"));
        test("The fault is the first one", () -> {
            due(-101, reading("0x1,x"));
            due(-104, reading("0-1,,,"));
            due(-100, reading(",0-1"));
            due(-100, reading("-1-2"));
            due(-107, reading("0-1:23,"));
        });
        test("The fault is of the text as it is, not of one that was longer before", () -> {
            BorderPaints x = map(0, 1);
            write(x, "0-1:55,0-1");
            due(2, x.readBorders());
            write(x, "0-1:");
            due(-104, x.readBorders());
            write(x, "0");
            due(-101, x.readBorders());
            x.clearText();
            due(-100, x.readBorders());
        });
    }

    /** One act adds a country; by as many more as told it may have the colours 1, 2, 3 and so on, as bits. */
    private static BorderPaints afterActs(int acts) {
        BorderPaints x = map(0);
        for (int i = 1; i <= acts; i++) {
            x.allow(0, i);
        }
        return x;
    }

    /** On a map with a full history, a snapshot of one country, a conflict and a text of one border. */
    private static void anActRecords(String name, int want, Call act) {
        test("Each act records the state that was before it: " + name, () -> {
            BorderPaints x = map(0);
            x.keep();
            x.addCountry(0, 1);
            x.addCountry(2, 1);
            write(x, "0-1:9");
            x.setBorder(0, 1, 10);
            int[] earlier = told(x);
            x.setBorder(1, 2, 20);
            int[] before = told(x);
            due(4, x.count(10));
            due(want, act.of(x));
            due(4, x.count(10));
            due(3, x.undo());
            before[10] = 3;
            dueRow(before, told(x));
            due(want, act.of(x));
            due(4, x.count(10));
            due(3, x.undo());
            due(2, x.undo());
            earlier[10] = 2;
            dueRow(earlier, told(x));
        });
    }

    private static void history() {
        test("A history of at most 4 states is kept", () -> {
            due(0, new BorderPaints().count(10));
            int[] want = {1, 2, 3, 4, 4, 4, 4, 4, 4, 4};
            for (int acts = 0; acts < want.length; acts++) {
                due(want[acts], afterActs(acts).count(10));
            }
        });
        test("When one more is recorded, the oldest one is dropped", () -> {
            BorderPaints x = map(0, 1, 2, 3);
            due(3, x.undo());
            due(2, x.undo());
            due(1, x.undo());
            due(0, x.undo());
            due(0, x.count(1));
            BorderPaints y = map(0, 1, 2, 3, 0);
            for (int left = 3; left >= 0; left--) {
                due(left, y.undo());
            }
            due(1, y.count(1));
            due(NONE, y.undo());
            due(1, y.count(1));
        });
        test("Whatever the number of acts, the latest four can be undone, the latest first", () -> {
            for (int acts = 4; acts <= 13; acts++) {
                BorderPaints x = afterActs(acts);
                for (int undos = 1; undos <= 4; undos++) {
                    due(4 - undos, x.undo());
                    due(acts == undos ? 15 : acts - undos, x.country(0, 1));
                }
                due(NONE, x.undo());
                due(acts == 4 ? 15 : acts - 4, x.country(0, 1));
            }
        });
        test("After undo there is room again, until there are 4", () -> {
            BorderPaints x = afterActs(6);
            due(3, x.undo());
            due(2, x.undo());
            x.paint(0, 1);
            due(3, x.count(10));
            x.paint(0, 2);
            due(4, x.count(10));
            x.paint(0, 3);
            due(4, x.count(10));
            int[] colours = {2, 1, 0, 0};
            int[] may = {4, 4, 4, 3};
            for (int i = 0; i < 4; i++) {
                due(3 - i, x.undo());
                due(colours[i], x.country(0, 0));
                due(may[i], x.country(0, 1));
            }
            due(NONE, x.undo());
        });
        test("undo() removes the latest state: it is no act, and nothing brings back what was undone", () -> {
            BorderPaints x = afterActs(3);
            due(3, x.undo());
            due(3, x.count(10));
            due(2, x.country(0, 1));
            due(2, x.undo());
            due(1, x.country(0, 1));
            due(1, x.undo());
            due(15, x.country(0, 1));
        });
        test("Undo and the snapshot bring back all of 28 borders, the last one too", () -> {
            BorderPaints x = eight();
            joinAllByBorders(x, 50);
            int[] all = borders(x);
            due(28, all.length);
            x.keep();
            due(50, x.setBorder(6, 7, 0));
            due(0, x.setBorder(6, 7, 2));
            x.undo();
            x.undo();
            dueRow(all, borders(x));
            x.setBorder(0, 1, 0);
            x.setBorder(0, 1, 50);
            due(1, x.borderAt(27));
            x.undo();
            x.undo();
            dueRow(all, borders(x));
            for (int other = 0; other < 7; other++) {
                due(50, x.setBorder(other, 7, 0));
            }
            x.restore();
            dueRow(all, borders(x));
        });
        anActRecords("addCountry", 3, x -> x.addCountry(1, 1));
        anActRecords("paint", 0, x -> x.paint(0, 3));
        anActRecords("allow", 15, x -> x.allow(0, 3));
        anActRecords("fix", 1, x -> x.fix(0, true));
        anActRecords("forbid", 2, x -> x.forbid(0, 2, true));
        anActRecords("setBorder", 0, x -> x.setBorder(0, 2, 5));
        anActRecords("readBorders", 1, x -> x.readBorders());
        anActRecords("join", 1, x -> x.join(0, 1));
        anActRecords("give", 7, x -> x.give(1, 0, 2, 3));
        anActRecords("repaint", 1, x -> x.repaint());
        anActRecords("exchange", 2, x -> x.exchange(0, 3));
        anActRecords("restore", 1, x -> x.restore());
        test("A call that returns an error records no state", () -> {
            BorderPaints x = map(0);
            x.paint(0, 4);
            x.paint(1, 0);
            x.addCountry(4, 1);
            due(1, x.count(10));
            due(0, x.undo());
            due(0, x.count(1));
        });
        test("A call that returns NONE records no state", () -> {
            BorderPaints x = map(0, 1);
            due(NONE, x.paint(0, 0));
            due(NONE, x.allow(0, 15));
            due(NONE, x.fix(0, false));
            due(NONE, x.forbid(0, 1, false));
            due(NONE, x.setBorder(0, 1, 0));
            due(NONE, x.repaint());
            due(NONE, x.restore());
            due(2, x.count(10));
            due(1, x.undo());
            due(1, x.count(1));
        });
        test("An act that changes nothing but returns no NONE records a state", () -> {
            BorderPaints x = map(0, 1);
            x.setBorder(0, 1, 1);
            write(x, "0-1");
            due(3, x.count(10));
            due(1, x.readBorders());
            due(4, x.count(10));
            x.undo();
            x.undo();
            x.keep();
            due(2, x.count(10));
            due(2, x.restore());
            due(3, x.count(10));
            due(2, x.undo());
        });
        test("The acts record the state, what is no act does not", () -> {
            BorderPaints x = map(0);
            x.type('0');
            x.keep();
            x.clearText();
            x.leastRepaint(0);
            x.wouldCost(0, 1);
            x.chain(0, 1);
            due(1, x.count(10));
        });
        test("There is one snapshot, empty at first", () -> {
            BorderPaints x = new BorderPaints();
            due(NONE, x.restore());
            x.addCountry(0, 1);
            due(NONE, x.restore());
            due(1, x.keep());
            x.addCountry(0, 1);
            due(2, x.keep());
            x.addCountry(0, 1);
            due(2, x.restore());
            due(2, x.restore());
        });
        test("A snapshot of a map without countries is not the same as none", () -> {
            BorderPaints x = new BorderPaints();
            due(0, x.keep());
            x.addCountry(0, 1);
            due(0, x.restore());
            due(0, x.count(1));
            due(2, x.count(10));
        });
        test("A state is everything but the text, the history and the snapshot", () -> {
            BorderPaints x = everyKindOfChange();
            int[] changed = {2, 2, 0, 0, 0, 0, 0, 2, 1, 5, 4, 3};
            dueRow(changed, counts(x));
            due(2, x.restore());
            int[] kept = {3, 2, 1, 5, 1, 5, 3, 0, 1, 4, 4, 3};
            dueRow(kept, counts(x));
            dueRow(row(0, 15, 1, 0, 2, 5, 1, 1, 14), country(x, 0));
            dueRow(row(0, 15, 1, 0, 1, 5, 1, 1, 14), country(x, 1));
            due(3, x.undo());
            int[] undone = {2, 2, 0, 0, 0, 0, 0, 2, 1, 5, 3, 3};
            dueRow(undone, counts(x));
            dueRow(row(3, 8, 2, 1, 0, 0, 0, 0, 8), country(x, 1));
        });
    }

    /** Keeps two neighbours in conflict, and changes everything then. */
    private static BorderPaints everyKindOfChange() {
        BorderPaints x = map(0, 0);
        x.setBorder(0, 1, 5);
        x.keep();
        write(x, "0-1");
        due(0, x.paint(1, 3));
        due(15, x.allow(1, 8));
        due(1, x.forbid(0, 3, true));
        due(0, x.join(0, 1));
        due(1, x.fix(1, true));
        return x;
    }

    private static void errors() {
        test("Sets of countries are told as bits: 1 for the country 0 to 128 for the country 7", () -> {
            for (int country = 0; country < 8; country++) {
                BorderPaints x = eight();
                x.setBorder(country, (country + 1) % 8, 1);
                x.allow(country, 2);
                x.fix(country, true);
                due(1 << country, x.count(7));
                due(1 << country, x.country((country + 1) % 8, 4));
                due(1 << country, x.chain(country, 1) & ~x.country(country, 4));
                x.forbid(0, 0, false);
                due(1 << country, x.count(6));
                x.fix(country, false);
                due(1 << country, x.leastRepaint(1));
            }
        });
        test("NONE is returned only if no error applies", () -> {
            BorderPaints x = map(0, 1);
            x.fix(0, true);
            due(NOT_POSSIBLE, x.paint(0, 0));
            due(UNKNOWN, x.fix(2, false));
            due(UNKNOWN, x.allow(2, 15));
            due(UNKNOWN, x.setBorder(0, 2, 0));
            due(BAD_VALUE, x.setBorder(0, 0, 0));
            due(BAD_VALUE, x.forbid(4, 0, false));
            due(BAD_VALUE, x.borderAt(-1));
            x.allow(0, 2);
            due(NOT_POSSIBLE, x.repaint());
        });
    }

    public static void main(String[] args) {
        howManyCountries();
        whatCountriesHave();
        borders();
        wrongAndGood();
        repaints();
        chains();
        joining();
        giving();
        texts();
        faults();
        history();
        errors();
        end();
    }
}
