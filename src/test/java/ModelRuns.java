import java.util.ArrayDeque;
import java.util.ArrayList;
import java.util.Arrays;
import java.util.LinkedHashMap;
import java.util.List;
import java.util.Map;
import java.util.TreeSet;

/** Long runs of mixed calls, each answer compared with that of a slow model that tries every painting. */
public final class ModelRuns {
    private static final int RUNS = 400;
    private static final int CALLS = 512;

    private static final String[] CALL_NAMES = {
        "addCountry", "paint", "allow", "fix", "forbid", "setBorder", "readBorders", "join", "give", "repaint",
        "exchange", "type", "clearText", "undo", "keep", "restore", "country", "border", "borderAt", "forbidden",
        "leastRepaint", "repainted", "wouldCost", "repaints", "freedom", "fewestColours", "chain", "count"};

    /** One state, held as plainly as the document tells it. */
    private static final class Situation {
        int ever = 0;
        TreeSet<Integer> there = new TreeSet<>();
        int[] colour = new int[8];
        int[] may = new int[8];
        int[] weight = new int[8];
        boolean[] fixed = new boolean[8];
        boolean[][] forbidden = new boolean[4][4];
        LinkedHashMap<Integer, Integer> borders = new LinkedHashMap<>();

        Situation copy() {
            Situation c = new Situation();
            c.ever = ever;
            c.there = new TreeSet<>(there);
            c.colour = colour.clone();
            c.may = may.clone();
            c.weight = weight.clone();
            c.fixed = fixed.clone();
            for (int i = 0; i < 4; i++) {
                c.forbidden[i] = forbidden[i].clone();
            }
            c.borders = new LinkedHashMap<>(borders);
            return c;
        }

        static int key(int a, int b) {
            return a < b ? 10 * a + b : 10 * b + a;
        }

        int length(int a, int b) {
            return borders.getOrDefault(key(a, b), 0);
        }

        void set(int a, int b, int length) {
            if (length == 0) {
                borders.remove(key(a, b));
            } else {
                borders.put(key(a, b), length);
            }
        }

        boolean conflict(int key, int[] painting) {
            return forbidden[painting[key / 10]][painting[key % 10]];
        }

        TreeSet<Integer> wrong(int[] painting) {
            TreeSet<Integer> wrong = new TreeSet<>();
            for (int c : there) {
                if ((may[c] & 1 << painting[c]) == 0) {
                    wrong.add(c);
                }
            }
            for (int key : borders.keySet()) {
                if (conflict(key, painting)) {
                    wrong.add(key / 10);
                    wrong.add(key % 10);
                }
            }
            return wrong;
        }
    }

    /** What all repaints of a situation tell, found by trying every painting. */
    private static final class Survey {
        int repaints = 0;
        int cost = -4;
        int[] least = null;
        int[] freedom = new int[8];
        int fewest = -4;

        Survey(Situation s) {
            List<Integer> there = new ArrayList<>(s.there);
            int[] painting = s.colour.clone();
            for (int number = 0; number < 1 << 2 * there.size(); number++) {
                boolean keepsFixed = true;
                for (int i = 0; i < there.size(); i++) {
                    int c = there.get(i);
                    painting[c] = number >> 2 * (there.size() - 1 - i) & 3;
                    keepsFixed &= !s.fixed[c] || painting[c] == s.colour[c];
                }
                if (keepsFixed && isGood(s, painting)) {
                    note(s, painting);
                }
            }
        }

        private static boolean isGood(Situation s, int[] painting) {
            for (int c : s.there) {
                if ((s.may[c] & 1 << painting[c]) == 0) {
                    return false;
                }
            }
            for (int key : s.borders.keySet()) {
                if (s.conflict(key, painting)) {
                    return false;
                }
            }
            return true;
        }

        private void note(Situation s, int[] painting) {
            repaints++;
            int itsCost = 0;
            TreeSet<Integer> used = new TreeSet<>();
            for (int c : s.there) {
                itsCost += painting[c] == s.colour[c] ? 0 : s.weight[c];
                freedom[c] |= 1 << painting[c];
                used.add(painting[c]);
            }
            if (least == null || itsCost < cost) {
                cost = itsCost;
                least = painting.clone();
            }
            if (fewest == -4 || used.size() < fewest) {
                fewest = used.size();
            }
        }
    }

    private static final class Model {
        Situation now = new Situation();
        Situation snapshot = null;
        final ArrayDeque<Situation> history = new ArrayDeque<>();
        final StringBuilder text = new StringBuilder();
        Survey survey = null;

        Model() {
            for (int i = 0; i < 4; i++) {
                now.forbidden[i][i] = true;
            }
        }

        private Survey survey() {
            if (survey == null) {
                survey = new Survey(now);
            }
            return survey;
        }

        private void act() {
            history.addLast(now.copy());
            if (history.size() > 4) {
                history.removeFirst();
            }
            survey = null;
        }

        private boolean strange(int... countries) {
            for (int c : countries) {
                if (!now.there.contains(c)) {
                    return true;
                }
            }
            return false;
        }

        private static boolean in(int low, int value, int high) {
            return low <= value && value <= high;
        }

        private static int bits(Iterable<Integer> set) {
            int bits = 0;
            for (int c : set) {
                bits |= 1 << c;
            }
            return bits;
        }

        private TreeSet<Integer> neighbours(int c) {
            TreeSet<Integer> found = new TreeSet<>();
            for (int other : now.there) {
                if (other != c && now.length(c, other) > 0) {
                    found.add(other);
                }
            }
            return found;
        }

        int addCountry(int colour, int weight) {
            if (!in(0, colour, 3) || !in(1, weight, 99)) {
                return -2;
            }
            if (now.ever == 8) {
                return -3;
            }
            act();
            int c = now.ever++;
            now.there.add(c);
            now.colour[c] = colour;
            now.may[c] = 15;
            now.weight[c] = weight;
            return c;
        }

        int paint(int c, int colour) {
            if (strange(c)) {
                return -1;
            }
            if (!in(0, colour, 3)) {
                return -2;
            }
            if (now.fixed[c]) {
                return -4;
            }
            if (now.colour[c] == colour) {
                return -5;
            }
            act();
            now.colour[c] = colour;
            return bits(now.wrong(now.colour));
        }

        int allow(int c, int colours) {
            if (strange(c)) {
                return -1;
            }
            if (!in(1, colours, 15)) {
                return -2;
            }
            if (now.may[c] == colours) {
                return -5;
            }
            act();
            int previous = now.may[c];
            now.may[c] = colours;
            return previous;
        }

        int fix(int c, boolean is) {
            if (strange(c)) {
                return -1;
            }
            if (now.fixed[c] == is) {
                return -5;
            }
            act();
            now.fixed[c] = is;
            return Integer.bitCount(count(7));
        }

        int forbid(int a, int b, boolean is) {
            if (!in(0, a, 3) || !in(0, b, 3)) {
                return -2;
            }
            if (now.forbidden[a][b] == is) {
                return -5;
            }
            act();
            now.forbidden[a][b] = is;
            now.forbidden[b][a] = is;
            return count(4);
        }

        int setBorder(int a, int b, int length) {
            if (strange(a, b)) {
                return -1;
            }
            if (a == b || !in(0, length, 99)) {
                return -2;
            }
            int previous = now.length(a, b);
            if (previous == length) {
                return -5;
            }
            act();
            now.set(a, b, length);
            return previous;
        }

        /** The fault of the text by a table of what may come when, or -1. */
        private int fault() {
            int place = 0;
            for (int i = 0; i < text.length(); i++) {
                int kind = "0-,:".indexOf(text.charAt(i));
                if (kind < 0) {
                    kind = text.charAt(i) >= '1' && text.charAt(i) <= '9' ? 4 : 5;
                }
                // columns: 0 - , : 1..9 else
                int[][] next = {
                    {1, -1, -1, -1, 1, -1},
                    {-1, 2, -1, -1, -1, -1},
                    {3, -1, -1, -1, 3, -1},
                    {-1, -1, 0, 4, -1, -1},
                    {-1, -1, -1, -1, 5, -1},
                    {6, -1, 0, -1, 6, -1},
                    {-1, -1, 0, -1, -1, -1}};
                place = next[place][kind];
                if (place < 0) {
                    return i;
                }
            }
            return place == 3 || place == 5 || place == 6 ? -1 : text.length();
        }

        int readBorders() {
            if (fault() >= 0) {
                return -100 - fault();
            }
            List<int[]> row = new ArrayList<>();
            for (String part : text.toString().split(",")) {
                int length = part.length() > 3 ? Integer.parseInt(part.substring(4)) : 1;
                row.add(new int[] {part.charAt(0) - '0', part.charAt(2) - '0', length});
            }
            for (int[] border : row) {
                if (strange(border[0], border[1])) {
                    return -1;
                }
            }
            for (int[] border : row) {
                if (border[0] == border[1]) {
                    return -2;
                }
            }
            act();
            for (int[] border : row) {
                now.set(border[0], border[1], border[2]);
            }
            return row.size();
        }

        int join(int c, int other) {
            if (strange(c, other)) {
                return -1;
            }
            if (c == other) {
                return -2;
            }
            if (now.length(c, other) == 0 || now.fixed[c] || now.fixed[other] || (now.may[c] & now.may[other]) == 0) {
                return -4;
            }
            act();
            now.set(c, other, 0);
            for (Map.Entry<Integer, Integer> e : new ArrayList<>(now.borders.entrySet())) {
                int key = e.getKey();
                if (key / 10 == c || key % 10 == c) {
                    int third = key / 10 == c ? key % 10 : key / 10;
                    int length = now.length(c, third);
                    now.set(other, third, Math.min(99, now.length(other, third) + length));
                    now.set(c, third, 0);
                }
            }
            now.may[other] &= now.may[c];
            now.weight[other] = Math.min(99, now.weight[other] + now.weight[c]);
            now.there.remove(c);
            return neighbours(other).size();
        }

        int give(int c, int from, int to, int length) {
            if (strange(c, from, to)) {
                return -1;
            }
            if (c == from || c == to || from == to || !in(1, length, 99)) {
                return -2;
            }
            if (now.length(c, from) < length || now.length(c, to) == 0) {
                return -4;
            }
            act();
            now.set(c, from, now.length(c, from) - length);
            now.set(c, to, Math.min(99, now.length(c, to) + length));
            return now.length(c, from);
        }

        int repaint() {
            Survey s = survey();
            if (s.least == null) {
                return -4;
            }
            if (s.cost == 0) {
                return -5;
            }
            act();
            now.colour = s.least.clone();
            return s.cost;
        }

        private TreeSet<Integer> chainSet(int c, int colour) {
            TreeSet<Integer> found = new TreeSet<>();
            ArrayDeque<Integer> open = new ArrayDeque<>();
            open.add(c);
            while (!open.isEmpty()) {
                int at = open.remove();
                if (found.add(at)) {
                    for (int n : neighbours(at)) {
                        if (now.colour[n] == now.colour[c] || now.colour[n] == colour) {
                            open.add(n);
                        }
                    }
                }
            }
            return found;
        }

        int exchange(int c, int colour) {
            int told = chain(c, colour);
            if (told < 0) {
                return told;
            }
            int sum = now.colour[c] + colour;
            TreeSet<Integer> members = chainSet(c, colour);
            for (int m : members) {
                if (now.fixed[m] || (now.may[m] & 1 << sum - now.colour[m]) == 0) {
                    return -4;
                }
            }
            act();
            for (int m : members) {
                now.colour[m] = sum - now.colour[m];
            }
            return members.size();
        }

        int type(char c) {
            if (text.length() == 60) {
                return -3;
            }
            text.append(c);
            return text.length();
        }

        int clearText() {
            int length = text.length();
            text.setLength(0);
            return length;
        }

        int undo() {
            if (history.isEmpty()) {
                return -5;
            }
            now = history.removeLast();
            survey = null;
            return history.size();
        }

        int keep() {
            snapshot = now.copy();
            return now.there.size();
        }

        int restore() {
            if (snapshot == null) {
                return -5;
            }
            act();
            now = snapshot.copy();
            return now.there.size();
        }

        int country(int c, int what) {
            if (strange(c)) {
                return -1;
            }
            int sum = 0;
            int conflicts = 0;
            for (int n : neighbours(c)) {
                sum += now.length(c, n);
                conflicts += now.conflict(Situation.key(c, n), now.colour) ? 1 : 0;
            }
            switch (what) {
                case 0: return now.colour[c];
                case 1: return now.may[c];
                case 2: return now.weight[c];
                case 3: return now.fixed[c] ? 1 : 0;
                case 4: return bits(neighbours(c));
                case 5: return sum;
                case 6: return conflicts;
                case 7: return now.wrong(now.colour).contains(c) ? 1 : 0;
                case 8: {
                    int could = 0;
                    for (int colour = 0; colour < 4; colour++) {
                        int[] painting = now.colour.clone();
                        painting[c] = colour;
                        could |= now.wrong(painting).contains(c) ? 0 : 1 << colour;
                    }
                    return could;
                }
                default: return -2;
            }
        }

        int border(int a, int b) {
            if (strange(a, b)) {
                return -1;
            }
            return a == b ? -2 : now.length(a, b);
        }

        int borderAt(int place) {
            if (place < 0) {
                return -2;
            }
            List<Integer> keys = new ArrayList<>(now.borders.keySet());
            return place < keys.size() ? keys.get(place) : -5;
        }

        int forbidden(int a, int b) {
            if (!in(0, a, 3) || !in(0, b, 3)) {
                return -2;
            }
            return now.forbidden[a][b] ? 1 : 0;
        }

        int leastRepaint(int what) {
            if (!in(0, what, 1)) {
                return -2;
            }
            Survey s = survey();
            if (s.least == null || what == 0) {
                return s.cost;
            }
            int changed = 0;
            for (int c : now.there) {
                changed |= s.least[c] == now.colour[c] ? 0 : 1 << c;
            }
            return changed;
        }

        int repainted(int c) {
            if (strange(c)) {
                return -1;
            }
            return survey().least == null ? -4 : survey().least[c];
        }

        int wouldCost(int a, int b) {
            if (strange(a, b)) {
                return -1;
            }
            if (a == b) {
                return -2;
            }
            Situation then = now.copy();
            then.set(a, b, 1);
            return new Survey(then).cost;
        }

        int repaints() {
            return survey().repaints;
        }

        int freedom(int c) {
            return strange(c) ? -1 : survey().freedom[c];
        }

        int fewestColours() {
            return survey().fewest;
        }

        int chain(int c, int colour) {
            if (strange(c)) {
                return -1;
            }
            if (!in(0, colour, 3) || colour == now.colour[c]) {
                return -2;
            }
            return bits(chainSet(c, colour));
        }

        int count(int what) {
            int length = 0;
            int conflicts = 0;
            int conflictLength = 0;
            for (Map.Entry<Integer, Integer> e : now.borders.entrySet()) {
                length += e.getValue();
                if (now.conflict(e.getKey(), now.colour)) {
                    conflicts++;
                    conflictLength += e.getValue();
                }
            }
            int fixed = 0;
            TreeSet<Integer> colours = new TreeSet<>();
            for (int c : now.there) {
                fixed |= now.fixed[c] ? 1 << c : 0;
                colours.add(now.colour[c]);
            }
            int pairs = 0;
            for (int i = 0; i < 16; i++) {
                pairs += i / 4 <= i % 4 && now.forbidden[i / 4][i % 4] ? 1 : 0;
            }
            int[] all = {
                bits(now.there), now.ever, now.borders.size(), length, conflicts, conflictLength,
                bits(now.wrong(now.colour)), fixed, colours.size(), pairs, history.size(), text.length()};
            return in(0, what, 11) ? all[what] : -2;
        }
    }

    private static long seed = 1;

    private static int below(int bound) {
        seed = seed * 6364136223846793005L + 1442695040888963407L;
        return (int) ((seed >>> 33) % bound);
    }

    private static final int[] ODD = {
        -1, -2, 4, 8, 9, 15, 16, 31, 32, 33, 63, 64, 99, 100, -31, -32, 1000, Integer.MIN_VALUE, Integer.MAX_VALUE};

    private static int oftenIn(int low, int high) {
        return below(16) == 0 ? ODD[below(ODD.length)] : low + below(high - low + 1);
    }

    private static int someCountry(Model m) {
        if (below(12) == 0 || m.now.there.isEmpty()) {
            return oftenIn(0, 8);
        }
        return new ArrayList<>(m.now.there).get(below(m.now.there.size()));
    }

    private static int someNeighbour(Model m, int c) {
        if (below(10) == 0 || m.strange(c) || m.neighbours(c).isEmpty()) {
            return someCountry(m);
        }
        return new ArrayList<>(m.neighbours(c)).get(below(m.neighbours(c).size()));
    }

    private static char someSign(Model m) {
        String usual = "0123456789-:,";
        if (below(25) == 0) {
            return (char) below(65536);
        }
        return usual.charAt(below(usual.length()));
    }

    private static int[] someArguments(int call, Model m) {
        switch (call) {
            case 0: return new int[] {oftenIn(0, 3), oftenIn(1, below(2) == 0 ? 99 : 4)};
            case 1: case 10: case 26: return new int[] {someCountry(m), oftenIn(0, 3)};
            case 2: return new int[] {someCountry(m), oftenIn(1, 15)};
            case 3: return new int[] {someCountry(m), below(3) == 0 ? 1 : 0};
            case 4: return new int[] {oftenIn(0, 3), oftenIn(0, 3), below(2)};
            case 5: return new int[] {someCountry(m), someCountry(m), below(4) == 0 ? 0 : oftenIn(0, 99)};
            case 17: case 22: return new int[] {someCountry(m), someCountry(m)};
            case 7: {
                int c = someCountry(m);
                return new int[] {c, someNeighbour(m, c)};
            }
            case 8: {
                int c = someCountry(m);
                int length = oftenIn(1, below(2) == 0 ? 9 : 99);
                return new int[] {c, someNeighbour(m, c), someNeighbour(m, c), length};
            }
            case 11: return new int[] {someSign(m)};
            case 16: return new int[] {someCountry(m), oftenIn(0, 8)};
            case 18: return new int[] {oftenIn(0, 12)};
            case 19: return new int[] {oftenIn(0, 3), oftenIn(0, 3)};
            case 20: return new int[] {oftenIn(0, 1)};
            case 21: case 24: return new int[] {someCountry(m)};
            case 27: return new int[] {oftenIn(0, 11)};
            default: return new int[0];
        }
    }

    private static int askProgram(BorderPaints x, int call, int[] a) {
        switch (call) {
            case 0: return x.addCountry(a[0], a[1]);
            case 1: return x.paint(a[0], a[1]);
            case 2: return x.allow(a[0], a[1]);
            case 3: return x.fix(a[0], a[1] == 1);
            case 4: return x.forbid(a[0], a[1], a[2] == 1);
            case 5: return x.setBorder(a[0], a[1], a[2]);
            case 6: return x.readBorders();
            case 7: return x.join(a[0], a[1]);
            case 8: return x.give(a[0], a[1], a[2], a[3]);
            case 9: return x.repaint();
            case 10: return x.exchange(a[0], a[1]);
            case 11: return x.type((char) a[0]);
            case 12: return x.clearText();
            case 13: return x.undo();
            case 14: return x.keep();
            case 15: return x.restore();
            case 16: return x.country(a[0], a[1]);
            case 17: return x.border(a[0], a[1]);
            case 18: return x.borderAt(a[0]);
            case 19: return x.forbidden(a[0], a[1]);
            case 20: return x.leastRepaint(a[0]);
            case 21: return x.repainted(a[0]);
            case 22: return x.wouldCost(a[0], a[1]);
            case 23: return x.repaints();
            case 24: return x.freedom(a[0]);
            case 25: return x.fewestColours();
            case 26: return x.chain(a[0], a[1]);
            default: return x.count(a[0]);
        }
    }

    private static int askModel(Model m, int call, int[] a) {
        switch (call) {
            case 0: return m.addCountry(a[0], a[1]);
            case 1: return m.paint(a[0], a[1]);
            case 2: return m.allow(a[0], a[1]);
            case 3: return m.fix(a[0], a[1] == 1);
            case 4: return m.forbid(a[0], a[1], a[2] == 1);
            case 5: return m.setBorder(a[0], a[1], a[2]);
            case 6: return m.readBorders();
            case 7: return m.join(a[0], a[1]);
            case 8: return m.give(a[0], a[1], a[2], a[3]);
            case 9: return m.repaint();
            case 10: return m.exchange(a[0], a[1]);
            case 11: return m.type((char) a[0]);
            case 12: return m.clearText();
            case 13: return m.undo();
            case 14: return m.keep();
            case 15: return m.restore();
            case 16: return m.country(a[0], a[1]);
            case 17: return m.border(a[0], a[1]);
            case 18: return m.borderAt(a[0]);
            case 19: return m.forbidden(a[0], a[1]);
            case 20: return m.leastRepaint(a[0]);
            case 21: return m.repainted(a[0]);
            case 22: return m.wouldCost(a[0], a[1]);
            case 23: return m.repaints();
            case 24: return m.freedom(a[0]);
            case 25: return m.fewestColours();
            case 26: return m.chain(a[0], a[1]);
            default: return m.count(a[0]);
        }
    }

    private static final class Run {
        final BorderPaints program = new BorderPaints();
        final Model model = new Model();
        final int number;
        int calls = 0;
        int[] kinds = new int[CALL_NAMES.length];
        boolean failed = false;

        Run(int number) {
            this.number = number;
        }

        boolean goesOn() {
            return !failed && calls < CALLS;
        }

        void ask(int call, int... arguments) {
            if (!goesOn()) {
                return;
            }
            calls++;
            int want = askModel(model, call, arguments);
            int got = askProgram(program, call, arguments);
            if (want >= 0) {
                kinds[call]++;
            }
            if (want != got) {
                failed = true;
                System.out.println("run " + number + ", call " + calls + ": " + CALL_NAMES[call]
                    + Arrays.toString(arguments) + " answered " + got + ", due is " + want);
            }
        }

        /** A call of any kind; few countries in most runs keep the model quick. */
        void askSomething(int mostCountries) {
            int call = below(CALL_NAMES.length + 6);
            if (call >= CALL_NAMES.length) {
                call = new int[] {5, 5, 4, 10, 9, 8}[call - CALL_NAMES.length];
            }
            boolean tooMany = call == 0 && model.now.ever >= mostCountries && mostCountries < 8;
            boolean tooRare = call == 7 && below(5) > 1 || call == 3 && below(3) == 0;
            if (!tooMany && !tooRare) {
                ask(call, someArguments(call, model));
            }
        }

        void writeAndRead() {
            ask(12);
            int most = below(8) == 0 ? 15 : 1 + below(5);
            for (int i = 0; i < most; i++) {
                writeBorder(i);
                if (below(60) == 0) {
                    ask(11, someSign(model));
                }
            }
            ask(6);
        }

        private void writeBorder(int i) {
            if (i > 0) {
                ask(11, ',');
            }
            int first = below(30) == 0 ? below(10) : someThere();
            int second = below(30) == 0 ? first : someThere();
            for (int k = 0; second == first && k < 20; k++) {
                second = someThere();
            }
            ask(11, '0' + first);
            ask(11, '-');
            ask(11, '0' + second);
            if (below(2) == 0) {
                ask(11, ':');
                ask(11, below(40) == 0 ? '0' : '1' + below(9));
                if (below(2) == 0) {
                    ask(11, '0' + below(10));
                }
            }
        }

        private int someThere() {
            List<Integer> there = new ArrayList<>(model.now.there);
            return there.isEmpty() ? 0 : there.get(below(there.size()));
        }

        /** Everything that can be asked without a change. */
        void askAll() {
            for (int what = 0; what <= 11; what++) {
                ask(27, what);
            }
            for (int c = 0; c < 8; c++) {
                for (int what = 0; what <= 8; what++) {
                    ask(16, c, what);
                }
            }
            for (int place = 0; place < model.now.borders.size(); place++) {
                ask(18, place);
            }
        }
    }

    private static int sizeOf(int run) {
        return run % 20 == 0 ? 8 : 2 + run % 5;
    }

    public static void main(String[] args) {
        int failed = 0;
        int[] kinds = new int[CALL_NAMES.length];
        for (int number = 1; number <= RUNS && failed < 5; number++) {
            seed = number;
            Run run = new Run(number);
            int most = sizeOf(number);
            for (int i = 0; i < most - below(2); i++) {
                run.ask(0, below(4), 1 + below(9));
            }
            while (run.goesOn()) {
                if (below(40) == 0) {
                    run.writeAndRead();
                } else if (below(150) == 0) {
                    run.askAll();
                } else {
                    run.askSomething(most);
                }
            }
            failed += run.failed ? 1 : 0;
            for (int i = 0; i < kinds.length; i++) {
                kinds[i] += run.kinds[i];
            }
        }
        // A run that never gets an answer of a kind would prove nothing for it.
        for (int i = 0; i < kinds.length; i++) {
            if (kinds[i] < RUNS) {
                System.out.println("too few answers without an error: " + CALL_NAMES[i] + " " + kinds[i]);
                failed++;
            }
        }
        System.out.println(RUNS + " runs of " + CALLS + " calls, " + failed + " failed");
        if (failed != 0) {
            System.exit(1);
        }
    }
}
