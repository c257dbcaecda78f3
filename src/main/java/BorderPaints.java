/** Countries with borders and colours, as ../shared/DOC.md describes them. */
public final class BorderPaints {

    public static final int UNKNOWN = -1;
    public static final int BAD_VALUE = -2;
    public static final int FULL = -3;
    public static final int NOT_POSSIBLE = -4;
    public static final int NONE = -5;

    private static final int COUNTRIES = 8;
    private static final int COLOURS = 4;
    private static final int ALL_COLOURS = 15;
    private static final int HEAVIEST = 99;
    private static final int LONGEST = 99;
    private static final int MOST_BORDERS = 28;
    private static final int TEXT_ROOM = 60;
    private static final int MOST_BORDERS_IN_TEXT = 16;
    private static final int HISTORY_ROOM = 4;
    private static final int FAULT_BASE = -100;
    private static final int NO_FAULT = -1;
    private static final int NO_COUNTRY = -1;

    private final State now = new State();
    private final State snapshot = new State();
    private boolean hasSnapshot = false;
    private final History history = new History();
    private final BorderText text = new BorderText();
    private final Repainter repainter = new Repainter();

    public BorderPaints() {
    }

    // ---- countries

    public int addCountry(int colour, int weight) {
        if (!isColour(colour) || weight < 1 || weight > HEAVIEST) {
            return BAD_VALUE;
        }
        if (now.ever >= COUNTRIES) {
            return FULL;
        }
        history.remember(now);
        return now.add(colour, weight);
    }

    public int paint(int country, int colour) {
        if (!now.isThere(country)) {
            return UNKNOWN;
        }
        if (!isColour(colour)) {
            return BAD_VALUE;
        }
        if (now.isFixed(country)) {
            return NOT_POSSIBLE;
        }
        if (now.colour[country] == colour) {
            return NONE;
        }
        history.remember(now);
        now.colour[country] = colour;
        return now.wrongCountries();
    }

    public int allow(int country, int colours) {
        if (!now.isThere(country)) {
            return UNKNOWN;
        }
        if (colours < 1 || colours > ALL_COLOURS) {
            return BAD_VALUE;
        }
        int previous = now.mayHave[country];
        if (previous == colours) {
            return NONE;
        }
        history.remember(now);
        now.mayHave[country] = colours;
        return previous;
    }

    public int fix(int country, boolean is) {
        if (!now.isThere(country)) {
            return UNKNOWN;
        }
        if (now.isFixed(country) == is) {
            return NONE;
        }
        history.remember(now);
        now.fixed ^= 1 << country;
        return Integer.bitCount(now.fixed);
    }

    public int forbid(int colour, int other, boolean is) {
        if (!isColour(colour) || !isColour(other)) {
            return BAD_VALUE;
        }
        if (now.isPairForbidden(colour, other) == is) {
            return NONE;
        }
        history.remember(now);
        now.setPair(colour, other, is);
        return now.conflicts();
    }

    // ---- borders

    public int setBorder(int country, int other, int length) {
        if (!now.isThere(country) || !now.isThere(other)) {
            return UNKNOWN;
        }
        if (country == other || length < 0 || length > LONGEST) {
            return BAD_VALUE;
        }
        int previous = now.borders.lengthBetween(country, other);
        if (previous == length) {
            return NONE;
        }
        history.remember(now);
        now.borders.put(country, other, length);
        return previous;
    }

    public int readBorders() {
        int fault = text.read();
        if (fault != NO_FAULT) {
            return FAULT_BASE - fault;
        }
        for (int i = 0; i < text.found; i++) {
            if (!now.isThere(text.first[i]) || !now.isThere(text.second[i])) {
                return UNKNOWN;
            }
        }
        for (int i = 0; i < text.found; i++) {
            if (text.first[i] == text.second[i]) {
                return BAD_VALUE;
            }
        }
        history.remember(now);
        for (int i = 0; i < text.found; i++) {
            now.borders.put(text.first[i], text.second[i], text.length[i]);
        }
        return text.found;
    }

    public int join(int country, int other) {
        if (!now.isThere(country) || !now.isThere(other)) {
            return UNKNOWN;
        }
        if (country == other) {
            return BAD_VALUE;
        }
        if (!canJoin(country, other)) {
            return NOT_POSSIBLE;
        }
        history.remember(now);
        now.merge(country, other);
        return Integer.bitCount(now.borders.neighboursOf(other));
    }

    private boolean canJoin(int country, int other) {
        return now.borders.lengthBetween(country, other) > 0
            && !now.isFixed(country)
            && !now.isFixed(other)
            && (now.mayHave[country] & now.mayHave[other]) != 0;
    }

    public int give(int country, int from, int to, int length) {
        if (!now.isThere(country) || !now.isThere(from) || !now.isThere(to)) {
            return UNKNOWN;
        }
        if (country == from || country == to || from == to || length < 1 || length > LONGEST) {
            return BAD_VALUE;
        }
        int shorter = now.borders.lengthBetween(country, from);
        int longer = now.borders.lengthBetween(country, to);
        if (shorter == 0 || longer == 0 || shorter < length) {
            return NOT_POSSIBLE;
        }
        history.remember(now);
        now.borders.put(country, from, shorter - length);
        now.borders.put(country, to, Math.min(LONGEST, longer + length));
        return shorter - length;
    }

    // ---- repainting

    public int repaint() {
        repainter.prepare(now);
        if (!repainter.findLeast()) {
            return NOT_POSSIBLE;
        }
        if (now.wrongCountries() == 0) {
            return NONE;
        }
        history.remember(now);
        for (int country = 0; country < COUNTRIES; country++) {
            if (now.isThere(country)) {
                now.colour[country] = repainter.least[country];
            }
        }
        return repainter.leastCost;
    }

    public int exchange(int country, int colour) {
        if (!now.isThere(country)) {
            return UNKNOWN;
        }
        if (!isColour(colour) || colour == now.colour[country]) {
            return BAD_VALUE;
        }
        int own = now.colour[country];
        int members = now.chainOf(country, colour);
        if (!now.canExchange(members, own, colour)) {
            return NOT_POSSIBLE;
        }
        history.remember(now);
        now.exchangeColours(members, own, colour);
        return Integer.bitCount(members);
    }

    // ---- texts

    public int type(char character) {
        if (text.size >= TEXT_ROOM) {
            return FULL;
        }
        text.append(character);
        return text.size;
    }

    public int clearText() {
        int previous = text.size;
        text.size = 0;
        return previous;
    }

    // ---- history

    public int undo() {
        if (history.size == 0) {
            return NONE;
        }
        history.takeLatest(now);
        return history.size;
    }

    public int keep() {
        snapshot.copyFrom(now);
        hasSnapshot = true;
        return Integer.bitCount(now.there);
    }

    public int restore() {
        if (!hasSnapshot) {
            return NONE;
        }
        history.remember(now);
        now.copyFrom(snapshot);
        return Integer.bitCount(now.there);
    }

    // ---- what is told

    public int country(int country, int what) {
        if (!now.isThere(country)) {
            return UNKNOWN;
        }
        switch (what) {
            case 0:
                return now.colour[country];
            case 1:
                return now.mayHave[country];
            case 2:
                return now.weight[country];
            case 3:
                return now.isFixed(country) ? 1 : 0;
            case 4:
                return now.borders.neighboursOf(country);
            case 5:
                return now.borders.lengthAround(country);
            case 6:
                return Integer.bitCount(now.conflictsOf(country));
            case 7:
                return now.isWrong(country) ? 1 : 0;
            case 8:
                return now.coloursWithoutWrong(country);
            default:
                return BAD_VALUE;
        }
    }

    public int border(int country, int other) {
        if (!now.isThere(country) || !now.isThere(other)) {
            return UNKNOWN;
        }
        if (country == other) {
            return BAD_VALUE;
        }
        return now.borders.lengthBetween(country, other);
    }

    public int borderAt(int place) {
        if (place < 0) {
            return BAD_VALUE;
        }
        if (place >= now.borders.size) {
            return NONE;
        }
        return 10 * now.borders.lower[place] + now.borders.greater[place];
    }

    public int forbidden(int colour, int other) {
        if (!isColour(colour) || !isColour(other)) {
            return BAD_VALUE;
        }
        return now.isPairForbidden(colour, other) ? 1 : 0;
    }

    public int leastRepaint(int what) {
        if (what < 0 || what > 1) {
            return BAD_VALUE;
        }
        repainter.prepare(now);
        if (!repainter.findLeast()) {
            return NOT_POSSIBLE;
        }
        return what == 0 ? repainter.leastCost : repainter.changedCountries();
    }

    public int repainted(int country) {
        if (!now.isThere(country)) {
            return UNKNOWN;
        }
        repainter.prepare(now);
        if (!repainter.findLeast()) {
            return NOT_POSSIBLE;
        }
        return repainter.least[country];
    }

    public int wouldCost(int country, int other) {
        if (!now.isThere(country) || !now.isThere(other)) {
            return UNKNOWN;
        }
        if (country == other) {
            return BAD_VALUE;
        }
        repainter.prepare(now);
        repainter.supposeBorder(country, other);
        if (!repainter.findLeast()) {
            return NOT_POSSIBLE;
        }
        return repainter.leastCost;
    }

    public int repaints() {
        repainter.prepare(now);
        return repainter.countAll();
    }

    public int freedom(int country) {
        if (!now.isThere(country)) {
            return UNKNOWN;
        }
        int colours = 0;
        for (int colour = 0; colour < COLOURS; colour++) {
            repainter.prepare(now);
            repainter.open[country] &= 1 << colour;
            if (repainter.canPaint()) {
                colours |= 1 << colour;
            }
        }
        return colours;
    }

    public int fewestColours() {
        int fewest = COLOURS + 1;
        for (int colours = 0; colours <= ALL_COLOURS; colours++) {
            int used = Integer.bitCount(colours);
            if (used < fewest) {
                repainter.prepare(now);
                repainter.keepOpen(colours);
                if (repainter.canPaint()) {
                    fewest = used;
                }
            }
        }
        return fewest > COLOURS ? NOT_POSSIBLE : fewest;
    }

    public int chain(int country, int colour) {
        if (!now.isThere(country)) {
            return UNKNOWN;
        }
        if (!isColour(colour) || colour == now.colour[country]) {
            return BAD_VALUE;
        }
        return now.chainOf(country, colour);
    }

    public int count(int what) {
        switch (what) {
            case 0:
                return now.there;
            case 1:
                return now.ever;
            case 2:
                return now.borders.size;
            case 3:
                return now.lengthOfBorders(false);
            case 4:
                return now.conflicts();
            case 5:
                return now.lengthOfBorders(true);
            case 6:
                return now.wrongCountries();
            case 7:
                return now.fixed;
            case 8:
                return now.differentColours();
            case 9:
                return now.forbiddenPairs();
            case 10:
                return history.size;
            case 11:
                return text.size;
            default:
                return BAD_VALUE;
        }
    }

    private static boolean isColour(int colour) {
        return colour >= 0 && colour < COLOURS;
    }

    private static boolean isNumber(int country) {
        return country >= 0 && country < COUNTRIES;
    }

    private static boolean has(int bits, int index) {
        return (bits >> index & 1) == 1;
    }

    /** The borders in the order in which they came, with their lengths. */
    private static final class Borders {
        int size = 0;
        final int[] lower = new int[MOST_BORDERS];
        final int[] greater = new int[MOST_BORDERS];
        final int[] length = new int[MOST_BORDERS];

        void copyFrom(Borders from) {
            size = from.size;
            System.arraycopy(from.lower, 0, lower, 0, MOST_BORDERS);
            System.arraycopy(from.greater, 0, greater, 0, MOST_BORDERS);
            System.arraycopy(from.length, 0, length, 0, MOST_BORDERS);
        }

        /** The place of a border in the order, or size if there is none. */
        int placeOf(int country, int other) {
            int low = Math.min(country, other);
            int high = Math.max(country, other);
            int place = 0;
            while (place < size && (lower[place] != low || greater[place] != high)) {
                place++;
            }
            return place;
        }

        int lengthBetween(int country, int other) {
            int place = placeOf(country, other);
            return place < size ? length[place] : 0;
        }

        /** Lets two different countries have a border of this length, none if it is 0. */
        void put(int country, int other, int newLength) {
            int place = placeOf(country, other);
            if (newLength == 0) {
                removeAt(place);
            } else if (place < size) {
                length[place] = newLength;
            } else if (size < MOST_BORDERS) {
                lower[size] = Math.min(country, other);
                greater[size] = Math.max(country, other);
                length[size] = newLength;
                size++;
            }
        }

        private void removeAt(int place) {
            if (place < 0 || place >= size) {
                return;
            }
            for (int i = place; i + 1 < size; i++) {
                lower[i] = lower[i + 1];
                greater[i] = greater[i + 1];
                length[i] = length[i + 1];
            }
            size--;
        }

        int neighboursOf(int country) {
            int neighbours = 0;
            for (int i = 0; i < size; i++) {
                if (lower[i] == country) {
                    neighbours |= 1 << greater[i];
                } else if (greater[i] == country) {
                    neighbours |= 1 << lower[i];
                }
            }
            return neighbours;
        }

        /** The neighbour at the border of this country that came first, or NO_COUNTRY. */
        int firstNeighbourOf(int country) {
            for (int i = 0; i < size; i++) {
                if (lower[i] == country) {
                    return greater[i];
                }
                if (greater[i] == country) {
                    return lower[i];
                }
            }
            return NO_COUNTRY;
        }

        int lengthAround(int country) {
            int sum = 0;
            for (int i = 0; i < size; i++) {
                if (lower[i] == country || greater[i] == country) {
                    sum += length[i];
                }
            }
            return sum;
        }
    }

    /** All that undo and the snapshot bring back. */
    private static final class State {
        int ever = 0;
        int there = 0;
        int fixed = 0;
        final int[] colour = new int[COUNTRIES];
        final int[] mayHave = new int[COUNTRIES];
        final int[] weight = new int[COUNTRIES];
        final int[] forbiddenWith = new int[COLOURS];
        final Borders borders = new Borders();

        State() {
            for (int i = 0; i < COLOURS; i++) {
                forbiddenWith[i] = 1 << i;
            }
        }

        void copyFrom(State from) {
            ever = from.ever;
            there = from.there;
            fixed = from.fixed;
            System.arraycopy(from.colour, 0, colour, 0, COUNTRIES);
            System.arraycopy(from.mayHave, 0, mayHave, 0, COUNTRIES);
            System.arraycopy(from.weight, 0, weight, 0, COUNTRIES);
            System.arraycopy(from.forbiddenWith, 0, forbiddenWith, 0, COLOURS);
            borders.copyFrom(from.borders);
        }

        boolean isThere(int country) {
            return isNumber(country) && has(there, country);
        }

        boolean isFixed(int country) {
            return has(fixed, country);
        }

        int add(int itsColour, int itsWeight) {
            int country = ever;
            if (!isNumber(country)) {
                return FULL;
            }
            colour[country] = itsColour;
            mayHave[country] = ALL_COLOURS;
            weight[country] = itsWeight;
            there |= 1 << country;
            ever++;
            return country;
        }

        boolean isPairForbidden(int one, int other) {
            return has(forbiddenWith[one], other);
        }

        void setPair(int one, int other, boolean is) {
            if (is) {
                forbiddenWith[one] |= 1 << other;
                forbiddenWith[other] |= 1 << one;
            } else {
                forbiddenWith[one] &= ~(1 << other);
                forbiddenWith[other] &= ~(1 << one);
            }
        }

        int forbiddenPairs() {
            int pairs = 0;
            for (int i = 0; i < COLOURS; i++) {
                for (int k = i; k < COLOURS; k++) {
                    if (isPairForbidden(i, k)) {
                        pairs++;
                    }
                }
            }
            return pairs;
        }

        private boolean isConflictAt(int place) {
            return isPairForbidden(colour[borders.lower[place]], colour[borders.greater[place]]);
        }

        int conflicts() {
            int conflicts = 0;
            for (int i = 0; i < borders.size; i++) {
                if (isConflictAt(i)) {
                    conflicts++;
                }
            }
            return conflicts;
        }

        int lengthOfBorders(boolean onlyConflicts) {
            int sum = 0;
            for (int i = 0; i < borders.size; i++) {
                if (!onlyConflicts || isConflictAt(i)) {
                    sum += borders.length[i];
                }
            }
            return sum;
        }

        /** The neighbours, as bits, at whose borders this country is in conflict. */
        int conflictsOf(int country) {
            int neighbours = borders.neighboursOf(country);
            int found = 0;
            for (int other = 0; other < COUNTRIES; other++) {
                if (has(neighbours, other) && isPairForbidden(colour[country], colour[other])) {
                    found |= 1 << other;
                }
            }
            return found;
        }

        boolean isWrong(int country) {
            return !has(mayHave[country], colour[country]) || conflictsOf(country) != 0;
        }

        int wrongCountries() {
            int wrong = 0;
            for (int country = 0; country < COUNTRIES; country++) {
                if (isThere(country) && isWrong(country)) {
                    wrong |= 1 << country;
                }
            }
            return wrong;
        }

        int coloursWithoutWrong(int country) {
            int neighbours = borders.neighboursOf(country);
            int colours = mayHave[country];
            for (int other = 0; other < COUNTRIES; other++) {
                if (has(neighbours, other)) {
                    colours &= ~forbiddenWith[colour[other]];
                }
            }
            return colours;
        }

        int differentColours() {
            int colours = 0;
            for (int country = 0; country < COUNTRIES; country++) {
                if (isThere(country)) {
                    colours |= 1 << colour[country];
                }
            }
            return Integer.bitCount(colours);
        }

        void merge(int country, int other) {
            // Taking the oldest border each time keeps the order that the document asks for.
            for (int i = 0; i < COUNTRIES; i++) {
                int third = borders.firstNeighbourOf(country);
                if (third == NO_COUNTRY) {
                    break;
                }
                int length = borders.lengthBetween(country, third);
                borders.put(country, third, 0);
                if (third != other) {
                    int sum = borders.lengthBetween(other, third) + length;
                    borders.put(other, third, Math.min(LONGEST, sum));
                }
            }
            mayHave[other] &= mayHave[country];
            weight[other] = Math.min(HEAVIEST, weight[other] + weight[country]);
            there &= ~(1 << country);
        }

        private int withEitherColour(int one, int other) {
            int found = 0;
            for (int country = 0; country < COUNTRIES; country++) {
                if (isThere(country) && (colour[country] == one || colour[country] == other)) {
                    found |= 1 << country;
                }
            }
            return found;
        }

        int chainOf(int start, int otherColour) {
            int candidates = withEitherColour(colour[start], otherColour);
            int reached = 1 << start;
            // A chain's farthest country is at most COUNTRIES - 1 borders away.
            for (int step = 1; step < COUNTRIES; step++) {
                int further = reached;
                for (int country = 0; country < COUNTRIES; country++) {
                    if (has(reached, country)) {
                        further |= borders.neighboursOf(country) & candidates;
                    }
                }
                reached = further;
            }
            return reached;
        }

        boolean canExchange(int members, int one, int other) {
            for (int country = 0; country < COUNTRIES; country++) {
                if (has(members, country)) {
                    int next = colour[country] == one ? other : one;
                    if (isFixed(country) || !has(mayHave[country], next)) {
                        return false;
                    }
                }
            }
            return true;
        }

        void exchangeColours(int members, int one, int other) {
            for (int country = 0; country < COUNTRIES; country++) {
                if (has(members, country)) {
                    colour[country] = colour[country] == one ? other : one;
                }
            }
        }
    }

    /** The latest states, in a ring that overwrites the oldest one. */
    private static final class History {
        int size = 0;
        private int next = 0;
        private final State[] states = new State[HISTORY_ROOM];

        History() {
            for (int i = 0; i < HISTORY_ROOM; i++) {
                states[i] = new State();
            }
        }

        void remember(State state) {
            states[next].copyFrom(state);
            next = next + 1 < HISTORY_ROOM ? next + 1 : 0;
            size = Math.min(HISTORY_ROOM, size + 1);
        }

        void takeLatest(State into) {
            if (size > 0) {
                next = next > 0 ? next - 1 : HISTORY_ROOM - 1;
                size--;
                into.copyFrom(states[next]);
            }
        }
    }

    /** The text, and the row of borders that was last read from it. */
    private static final class BorderText {
        int size = 0;
        private final char[] signs = new char[TEXT_ROOM];
        int found = 0;
        final int[] first = new int[MOST_BORDERS_IN_TEXT];
        final int[] second = new int[MOST_BORDERS_IN_TEXT];
        final int[] length = new int[MOST_BORDERS_IN_TEXT];

        void append(char character) {
            if (size < TEXT_ROOM) {
                signs[size] = character;
                size++;
            }
        }

        private boolean isSignAt(int index, char sign) {
            return index < size && signs[index] == sign;
        }

        private boolean isDigitAt(int index) {
            return index < size && signs[index] >= '0' && signs[index] <= '9';
        }

        private int digitAt(int index) {
            return isDigitAt(index) ? signs[index] - '0' : 0;
        }

        /** Reads the row of borders; returns the fault of the text, or NO_FAULT. */
        int read() {
            found = 0;
            int at = 0;
            // A border and its "," take at least four characters, so the text ends before the bound.
            for (int i = 0; i < MOST_BORDERS_IN_TEXT; i++) {
                int fault = faultInBorder(at);
                if (fault != NO_FAULT) {
                    return fault;
                }
                at += takeBorder(i, at);
                if (at >= size) {
                    return NO_FAULT;
                }
                if (!isSignAt(at, ',')) {
                    return at;
                }
                at++;
            }
            return at;
        }

        private int faultInBorder(int at) {
            if (!isDigitAt(at)) {
                return at;
            }
            if (!isSignAt(at + 1, '-')) {
                return at + 1;
            }
            if (!isDigitAt(at + 2)) {
                return at + 2;
            }
            if (isSignAt(at + 3, ':') && digitAt(at + 4) == 0) {
                return at + 4;
            }
            return NO_FAULT;
        }

        /** Takes the border without a fault that begins here; returns how many characters it has. */
        private int takeBorder(int place, int at) {
            first[place] = digitAt(at);
            second[place] = digitAt(at + 2);
            length[place] = 1;
            int taken = 3;
            if (isSignAt(at + 3, ':')) {
                length[place] = digitAt(at + 4);
                taken = 5;
                if (isDigitAt(at + 5)) {
                    length[place] = 10 * length[place] + digitAt(at + 5);
                    taken = 6;
                }
            }
            found = place + 1;
            return taken;
        }
    }

    /** Looks through the repaints of a state, country by country. */
    private static final class Repainter {
        private final State state = new State();
        /** The colours, as bits, that each country could have if it had no neighbours. */
        final int[] open = new int[COUNTRIES];
        private final int[] neighbours = new int[COUNTRIES];
        private final int[] trial = new int[COUNTRIES];
        final int[] least = new int[COUNTRIES];
        int leastCost = 0;
        private boolean isFound = false;

        void prepare(State from) {
            state.copyFrom(from);
            for (int country = 0; country < COUNTRIES; country++) {
                open[country] = state.mayHave[country];
                if (state.isFixed(country)) {
                    open[country] &= 1 << state.colour[country];
                }
                neighbours[country] = state.borders.neighboursOf(country);
            }
        }

        void supposeBorder(int country, int other) {
            neighbours[country] |= 1 << other;
            neighbours[other] |= 1 << country;
        }

        void keepOpen(int colours) {
            for (int country = 0; country < COUNTRIES; country++) {
                open[country] &= colours;
            }
        }

        /** The colours that go with those on trial at the neighbours of lower numbers. */
        private int coloursFor(int country) {
            int colours = open[country];
            for (int other = 0; other < country; other++) {
                if (has(neighbours[country], other)) {
                    colours &= ~state.forbiddenWith[trial[other]];
                }
            }
            return colours;
        }

        private boolean bindsLaterOnes(int country) {
            return neighbours[country] >> country != 0;
        }

        int countAll() {
            return countFrom(this, 0);
        }

        private static int countFrom(Repainter search, int country) {
            if (country >= COUNTRIES) {
                return 1;
            }
            if (!search.state.isThere(country)) {
                return countFrom(search, country + 1);
            }
            int colours = search.coloursFor(country);
            if (!search.bindsLaterOnes(country)) {
                return Integer.bitCount(colours) * countFrom(search, country + 1);
            }
            int sum = 0;
            for (int colour = 0; colour < COLOURS; colour++) {
                if (has(colours, colour)) {
                    search.trial[country] = colour;
                    sum += countFrom(search, country + 1);
                }
            }
            return sum;
        }

        boolean canPaint() {
            return canPaintFrom(this, 0);
        }

        private static boolean canPaintFrom(Repainter search, int country) {
            if (country >= COUNTRIES) {
                return true;
            }
            if (!search.state.isThere(country)) {
                return canPaintFrom(search, country + 1);
            }
            int colours = search.coloursFor(country);
            if (!search.bindsLaterOnes(country)) {
                return colours != 0 && canPaintFrom(search, country + 1);
            }
            for (int colour = 0; colour < COLOURS; colour++) {
                if (has(colours, colour)) {
                    search.trial[country] = colour;
                    if (canPaintFrom(search, country + 1)) {
                        return true;
                    }
                }
            }
            return false;
        }

        /** Finds the least repaint; returns whether there is one. */
        boolean findLeast() {
            isFound = false;
            findLeastFrom(this, 0, 0);
            return isFound;
        }

        private static void findLeastFrom(Repainter search, int country, int cost) {
            // Lower colours are tried first, so of equal costs the first one found is due.
            if (search.isFound && cost >= search.leastCost) {
                return;
            }
            if (country >= COUNTRIES) {
                System.arraycopy(search.trial, 0, search.least, 0, COUNTRIES);
                search.leastCost = cost;
                search.isFound = true;
                return;
            }
            if (!search.state.isThere(country)) {
                findLeastFrom(search, country + 1, cost);
                return;
            }
            int colours = search.coloursFor(country);
            for (int colour = 0; colour < COLOURS; colour++) {
                if (has(colours, colour)) {
                    search.trial[country] = colour;
                    int change = colour == search.state.colour[country] ? 0 : search.state.weight[country];
                    findLeastFrom(search, country + 1, cost + change);
                }
            }
        }

        int changedCountries() {
            int changed = 0;
            for (int country = 0; country < COUNTRIES; country++) {
                if (state.isThere(country) && least[country] != state.colour[country]) {
                    changed |= 1 << country;
                }
            }
            return changed;
        }
    }
}
