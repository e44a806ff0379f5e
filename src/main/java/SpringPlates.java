/** Plates between two walls, held by springs and stops; the document tells what each call answers. */
public final class SpringPlates {
    public static final int INVALID_ARGUMENT = -1000001;
    public static final int NOT_POSSIBLE = -1000002;
    public static final int LIMIT_REACHED = -1000003;
    public static final int NOT_FOUND = -1000004;

    private static final int MOST_PLATES = 4;
    private static final int MOST_STATES = 4;
    private static final int MOST_CHARACTERS = 60;
    private static final int NARROWEST = 10;
    private static final int WIDEST = 99;
    private static final int STRONGEST = 9;
    private static final int LONGEST = 50;
    private static final int HEAVIEST = 99;
    private static final int LEFT = 0;
    private static final int RIGHT = 1;
    private static final int NO_STOP = -1;
    /** Loads and forces can be below 0, so that answers tell them with these added. */
    private static final int LOAD_SHIFT = 1000;
    private static final int FORCE_SHIFT = 1000000000;

    private final Layout laid = new Layout();
    /** Changes are made here first, so that one that fails leaves what is laid as it is. */
    private final Layout trial = new Layout();
    private final Layout[] past = new Layout[MOST_STATES];
    private int states = 0;
    private final Rest rest = new Rest();
    private boolean restKnown = false;
    private final Rest trialRest = new Rest();
    private final Script script = new Script();

    public SpringPlates() {
    }

    // ---- what is laid

    public int width(int width) {
        return keep(freshTrial().setWidth(width));
    }

    public int plate() {
        return keep(freshTrial().addPlate());
    }

    public int drop(int plate) {
        return keep(freshTrial().removePlate(plate));
    }

    public int spring(int spring, int strength, int length) {
        return keep(freshTrial().setSpring(spring, strength, length));
    }

    public int load(int plate, int load) {
        return keep(freshTrial().setLoad(plate, load));
    }

    public int stop(int plate, int side, int place) {
        return keep(freshTrial().setStop(plate, side, place));
    }

    public int unstop(int plate, int side) {
        return keep(freshTrial().removeStop(plate, side));
    }

    public int plateOf(int plate, int what) {
        if (!laid.hasPlate(plate)) {
            return INVALID_ARGUMENT;
        }
        switch (what) {
            case 0:
                return laid.loads[plate] + LOAD_SHIFT;
            case 1:
                return placeOrNotFound(laid.stopOf(plate, LEFT));
            case 2:
                return placeOrNotFound(laid.stopOf(plate, RIGHT));
            case 3:
                return laid.strengths[plate];
            case 4:
                return laid.lengths[plate];
            case 5:
                return laid.strengths[plate + 1];
            case 6:
                return laid.lengths[plate + 1];
            default:
                return INVALID_ARGUMENT;
        }
    }

    private static int placeOrNotFound(int stop) {
        return stop == NO_STOP ? NOT_FOUND : stop;
    }

    private Layout freshTrial() {
        trial.copyFrom(laid);
        return trial;
    }

    /** Makes the trial what is laid, unless the answer of its change is an error. */
    private int keep(int answer) {
        if (isError(answer)) {
            return answer;
        }
        recordState();
        laid.copyFrom(trial);
        restKnown = false;
        return answer;
    }

    private static boolean isError(int answer) {
        return answer <= INVALID_ARGUMENT;
    }

    private void recordState() {
        if (states >= MOST_STATES) {
            forgetOldestState();
        }
        Layout state = past[states];
        if (state == null) {
            state = new Layout();
            past[states] = state;
        }
        state.copyFrom(laid);
        states++;
    }

    /** The oldest state's object goes to the free end, so that it is used again rather than a new one made. */
    private void forgetOldestState() {
        Layout oldest = past[0];
        for (int i = 1; i < MOST_STATES; i++) {
            past[i - 1] = past[i];
        }
        past[MOST_STATES - 1] = oldest;
        states = MOST_STATES - 1;
    }

    // ---- rest

    public int place(int plate, int part) {
        if (!laid.hasPlate(plate) || part < 0 || part > 2) {
            return INVALID_ARGUMENT;
        }
        Rest now = settled();
        if (part == 2) {
            return now.wholePlaceOf(plate);
        }
        return (int) inLowestTerms(now.upperPlaceOf(plate), now.lower, part);
    }

    public int pull(int spring, int part) {
        if (!laid.hasSpring(spring) || !isPart(part)) {
            return INVALID_ARGUMENT;
        }
        Rest now = settled();
        return forcePart(now.tensionOf(laid, spring), now.lower, part);
    }

    public int push(int plate, int part) {
        if (!laid.hasPlate(plate) || !isPart(part)) {
            return INVALID_ARGUMENT;
        }
        Rest now = settled();
        return forcePart(-now.forceOn(laid, plate, plate), now.lower, part);
    }

    public int plates(int what) {
        if (what < 0 || what > 4) {
            return INVALID_ARGUMENT;
        }
        Rest now = settled();
        int set = 0;
        for (int plate = 0; plate < laid.plates; plate++) {
            if (isAmong(now, plate, what)) {
                set |= 1 << plate;
            }
        }
        return set;
    }

    private boolean isAmong(Rest now, int plate, int what) {
        switch (what) {
            case 0:
                return isAtStop(now, plate, LEFT);
            case 1:
                return isAtStop(now, plate, RIGHT);
            case 2:
                return plate + 1 < laid.plates && now.touchesNext(plate);
            case 3:
                return now.isAt(plate, 0) || now.isAt(plate, laid.width);
            default:
                return now.forceOn(laid, plate, plate) != 0;
        }
    }

    private boolean isAtStop(Rest now, int plate, int side) {
        int stop = laid.stopOf(plate, side);
        return stop != NO_STOP && now.isAt(plate, stop);
    }

    private Rest settled() {
        if (!restKnown) {
            rest.settle(laid);
            restKnown = true;
        }
        return rest;
    }

    private static boolean isPart(int part) {
        return part == 0 || part == 1;
    }

    private static int forcePart(long upper, long lower, int part) {
        int value = (int) inLowestTerms(upper, lower, part);
        return part == 0 ? value + FORCE_SHIFT : value;
    }

    /** Tells the upper (part 0) or the lower part (part 1) of a fraction. */
    private static long inLowestTerms(long upper, long lower, int part) {
        long divisor = greatestDivisor(upper, lower);
        long value = part == 0 ? upper : lower;
        return divisor > 1 ? value / divisor : value;
    }

    private static long greatestDivisor(long one, long other) {
        long a = Math.abs(one);
        long b = Math.abs(other);
        // Two numbers of 63 bits take less than 100 rounds.
        for (int round = 0; round < 200 && b != 0; round++) {
            long remainder = a % b;
            a = b;
            b = remainder;
        }
        return a;
    }

    // ---- what would be

    public int without(int plate, int side, int other, int part) {
        if (!laid.hasPlate(plate) || !isSide(side) || !laid.hasPlate(other) || !isPart(part)) {
            return INVALID_ARGUMENT;
        }
        if (laid.stopOf(plate, side) == NO_STOP) {
            return NOT_POSSIBLE;
        }
        settleWithout(plate, side);
        return (int) inLowestTerms(trialRest.upperPlaceOf(other), trialRest.lower, part);
    }

    public int leastLoad(int plate, int place) {
        if (!laid.hasPlate(plate) || place < 0 || place > WIDEST) {
            return INVALID_ARGUMENT;
        }
        trial.copyFrom(laid);
        if (!trialReaches(plate, HEAVIEST, place)) {
            return NOT_FOUND;
        }
        int low = -HEAVIEST;
        int high = HEAVIEST;
        // A plate never rests farther to the left by a greater load, so that halving finds the least one.
        for (int round = 0; round < 20 && low < high; round++) {
            int middle = Math.floorDiv(low + high, 2);
            if (trialReaches(plate, middle, place)) {
                high = middle;
            } else {
                low = middle + 1;
            }
        }
        return high + LOAD_SHIFT;
    }

    public long hardest(int what) {
        if (what < 0 || what > 3) {
            return INVALID_ARGUMENT;
        }
        Rest now = settled();
        int bestStop = -1;
        long bestSum = 0;
        long bestLower = 1;
        for (int i = 0; i < 2 * laid.plates; i++) {
            if (laid.stops[i] == NO_STOP) {
                continue;
            }
            settleWithout(i / 2, i % 2);
            long sum = trialRest.distanceFrom(now, laid.plates);
            // All sums are over the lower part of now, too, so that it need not be compared.
            if (bestStop < 0 || sum * bestLower > bestSum * trialRest.lower) {
                bestStop = i;
                bestSum = sum;
                bestLower = trialRest.lower;
            }
        }
        if (bestStop < 0) {
            return NOT_FOUND;
        }
        if (what < 2) {
            return what == 0 ? bestStop / 2 : bestStop % 2;
        }
        return inLowestTerms(bestSum, bestLower * now.lower, what - 2);
    }

    public int count(int what) {
        switch (what) {
            case 0:
                return laid.plates;
            case 1:
                return laid.width;
            case 2:
                return laid.countStops();
            case 3:
                return laid.sumOfLoads(0, laid.plates - 1) + LOAD_SHIFT;
            case 4:
                return states;
            case 5:
                return script.size;
            default:
                return INVALID_ARGUMENT;
        }
    }

    public int undo() {
        Layout latest = states > 0 ? past[states - 1] : null;
        if (latest == null) {
            return NOT_POSSIBLE;
        }
        states--;
        laid.copyFrom(latest);
        restKnown = false;
        return states;
    }

    private static boolean isSide(int side) {
        return side == LEFT || side == RIGHT;
    }

    private void settleWithout(int plate, int side) {
        trial.copyFrom(laid);
        trial.removeStop(plate, side);
        trialRest.settle(trial);
    }

    private boolean trialReaches(int plate, int load, int place) {
        trial.setLoad(plate, load);
        trialRest.settle(trial);
        return trialRest.upperPlaceOf(plate) >= place * trialRest.lower;
    }

    // ---- texts

    public int type(int character) {
        return script.append(character);
    }

    public int clearText() {
        int size = script.size;
        script.size = 0;
        return size;
    }

    public int fault(int what) {
        if (what < 0 || what > 2) {
            return INVALID_ARGUMENT;
        }
        if (script.playOn(freshTrial())) {
            return NOT_FOUND;
        }
        if (what == 0) {
            return script.start;
        }
        if (what == 1) {
            return script.reason;
        }
        return script.reason == Script.NOT_POSSIBLE_OTHERWISE ? NOT_FOUND : script.cause;
    }

    public int play() {
        if (!script.playOn(freshTrial())) {
            return NOT_POSSIBLE;
        }
        return keep(script.settings);
    }

    /** What is laid between the walls; its changes return what the document's calls return, and change nothing by an error. */
    private static final class Layout {
        int width = 60;
        int plates = 0;
        final int[] strengths = new int[MOST_PLATES + 1];
        final int[] lengths = new int[MOST_PLATES + 1];
        final int[] loads = new int[MOST_PLATES];
        /** The left stop of each plate, then its right one, so that this is the order of the stops, too. */
        final int[] stops = new int[2 * MOST_PLATES];

        Layout() {
            putNewSpring(0);
        }

        void copyFrom(Layout other) {
            width = other.width;
            plates = other.plates;
            for (int i = 0; i <= MOST_PLATES; i++) {
                strengths[i] = other.strengths[i];
                lengths[i] = other.lengths[i];
            }
            for (int i = 0; i < MOST_PLATES; i++) {
                copyPlate(other, i, i);
            }
        }

        private void copyPlate(Layout other, int from, int to) {
            loads[to] = other.loads[from];
            stops[2 * to] = other.stops[2 * from];
            stops[2 * to + 1] = other.stops[2 * from + 1];
        }

        private void putNewSpring(int spring) {
            strengths[spring] = 1;
            lengths[spring] = 10;
        }

        boolean hasPlate(int plate) {
            return plate >= 0 && plate < plates;
        }

        boolean hasSpring(int spring) {
            return spring >= 0 && spring <= plates;
        }

        int stopOf(int plate, int side) {
            return stops[2 * plate + side];
        }

        int countStops() {
            int count = 0;
            for (int i = 0; i < 2 * plates; i++) {
                if (stops[i] != NO_STOP) {
                    count++;
                }
            }
            return count;
        }

        int sumOfLoads(int first, int last) {
            int sum = 0;
            for (int plate = first; plate <= last; plate++) {
                sum += loads[plate];
            }
            return sum;
        }

        int leftBoundOf(int plate) {
            int stop = stopOf(plate, LEFT);
            return stop == NO_STOP ? 0 : stop;
        }

        int rightBoundOf(int plate) {
            int stop = stopOf(plate, RIGHT);
            return stop == NO_STOP ? width : stop;
        }

        /** A row is allowed if none is held to the right of where it, or one behind it, is held to the left. */
        private boolean allowsRow() {
            int reached = 0;
            for (int plate = 0; plate < plates; plate++) {
                reached = Math.max(reached, leftBoundOf(plate));
                if (reached > rightBoundOf(plate)) {
                    return false;
                }
            }
            return true;
        }

        private boolean hasStopBeyond(int place) {
            for (int i = 0; i < 2 * plates; i++) {
                if (stops[i] > place) {
                    return true;
                }
            }
            return false;
        }

        int setWidth(int newWidth) {
            if (newWidth < NARROWEST || newWidth > WIDEST) {
                return INVALID_ARGUMENT;
            }
            if (hasStopBeyond(newWidth)) {
                return NOT_POSSIBLE;
            }
            int before = width;
            width = newWidth;
            return before;
        }

        int addPlate() {
            if (plates >= MOST_PLATES) {
                return LIMIT_REACHED;
            }
            int plate = plates;
            loads[plate] = 0;
            stops[2 * plate] = NO_STOP;
            stops[2 * plate + 1] = NO_STOP;
            putNewSpring(plate + 1);
            plates++;
            return plate;
        }

        int removePlate(int plate) {
            if (!hasPlate(plate)) {
                return INVALID_ARGUMENT;
            }
            for (int i = plate; i + 1 < plates; i++) {
                copyPlate(this, i + 1, i);
                strengths[i + 1] = strengths[i + 2];
                lengths[i + 1] = lengths[i + 2];
            }
            plates--;
            return plates;
        }

        int setSpring(int spring, int strength, int length) {
            if (!hasSpring(spring) || strength < 1 || strength > STRONGEST || length < 0 || length > LONGEST) {
                return INVALID_ARGUMENT;
            }
            int before = 100 * strengths[spring] + lengths[spring];
            strengths[spring] = strength;
            lengths[spring] = length;
            return before;
        }

        int setLoad(int plate, int newLoad) {
            if (!hasPlate(plate) || newLoad < -HEAVIEST || newLoad > HEAVIEST) {
                return INVALID_ARGUMENT;
            }
            int before = loads[plate];
            loads[plate] = newLoad;
            return before + LOAD_SHIFT;
        }

        int setStop(int plate, int side, int place) {
            if (!hasPlate(plate) || !isSide(side) || place < 0 || place > width) {
                return INVALID_ARGUMENT;
            }
            int before = stopOf(plate, side);
            stops[2 * plate + side] = place;
            if (!allowsRow()) {
                stops[2 * plate + side] = before;
                return NOT_POSSIBLE;
            }
            return before;
        }

        int removeStop(int plate, int side) {
            if (!hasPlate(plate) || !isSide(side)) {
                return INVALID_ARGUMENT;
            }
            int before = stopOf(plate, side);
            if (before == NO_STOP) {
                return NOT_POSSIBLE;
            }
            stops[2 * plate + side] = NO_STOP;
            return before;
        }
    }

    /**
     * Finds where the plates of a layout rest. It guesses how each plate is held, finds the places that follow, and
     * takes them if they are allowed and no force moves a plate from there: as there is just one row of the least
     * energy, the first guess that stands is right.
     */
    private static final class Rest {
        private static final int BY_SPRINGS = 0;
        private static final int AT_LOWEST = 1;
        private static final int AT_HIGHEST = 2;
        private static final int AT_NEXT = 3;

        /** The upper parts of all places, the walls at both ends, so that the spring k is between spots k and k + 1. */
        private final long[] spots = new long[MOST_PLATES + 2];
        /** One lower part for all spots: it is at most 5 times 9 to the 4th, so that no product below is too long. */
        long lower = 1;
        private final int[] lowest = new int[MOST_PLATES];
        private final int[] highest = new int[MOST_PLATES];
        private final int[] holds = new int[MOST_PLATES];
        /** The place of a plate is (constant + slope times the place of the next) / divisor. */
        private final long[] constants = new long[MOST_PLATES];
        private final long[] slopes = new long[MOST_PLATES];
        private final long[] divisors = new long[MOST_PLATES];
        private final long[] uppers = new long[MOST_PLATES];
        private final long[] lowers = new long[MOST_PLATES];

        long upperPlaceOf(int plate) {
            return spots[plate + 1];
        }

        int wholePlaceOf(int plate) {
            return lower > 0 ? (int) Math.floorDiv(spots[plate + 1], lower) : 0;
        }

        boolean isAt(int plate, int place) {
            return spots[plate + 1] == place * lower;
        }

        boolean touchesNext(int plate) {
            return spots[plate + 1] == spots[plate + 2];
        }

        /** The upper part of the force by which a spring pulls. */
        long tensionOf(Layout layout, int spring) {
            long distance = spots[spring + 1] - spots[spring];
            return layout.strengths[spring] * (distance - layout.lengths[spring] * lower);
        }

        /** The upper part of the force to the right by which loads and springs move neighbors together. */
        long forceOn(Layout layout, int first, int last) {
            long loads = layout.sumOfLoads(first, last) * lower;
            return loads + tensionOf(layout, last + 1) - tensionOf(layout, first);
        }

        /** The upper part of how far all plates are from where they are in another rest, over both lower parts. */
        long distanceFrom(Rest other, int plates) {
            long sum = 0;
            for (int spot = 1; spot <= plates; spot++) {
                sum += Math.abs(spots[spot] * other.lower - other.spots[spot] * lower);
            }
            return sum;
        }

        void settle(Layout layout) {
            boundPlates(layout);
            // The last plate has no next one that it could be at: 3 ways for it, 4 for each other one.
            int guesses = layout.plates == 0 ? 1 : 3 << (2 * (layout.plates - 1));
            for (int guess = 0; guess < guesses; guess++) {
                takeGuess(layout, guess);
                expressPlaces(layout);
                if (findPlaces(layout)) {
                    shareLower(layout);
                    if (nothingMoves(layout)) {
                        return;
                    }
                }
            }
        }

        /** As none can pass another, each is bound by the left stops of those ahead and the right ones of those behind. */
        private void boundPlates(Layout layout) {
            int bound = 0;
            for (int plate = 0; plate < layout.plates; plate++) {
                bound = Math.max(bound, layout.leftBoundOf(plate));
                lowest[plate] = bound;
            }
            bound = layout.width;
            for (int plate = layout.plates - 1; plate >= 0; plate--) {
                bound = Math.min(bound, layout.rightBoundOf(plate));
                highest[plate] = bound;
            }
        }

        private void takeGuess(Layout layout, int guess) {
            for (int plate = 0; plate < layout.plates; plate++) {
                holds[plate] = guess >> (2 * plate) & 3;
            }
        }

        /** Tells each place by that of the next one, from the left to the right. */
        private void expressPlaces(Layout layout) {
            int first = 0;
            // Of what is to the left of the plates that are together: first the wall, at 0.
            long constant = 0;
            long slope = 0;
            long divisor = 1;
            for (int plate = 0; plate < layout.plates; plate++) {
                if (holds[plate] == AT_NEXT) {
                    putPlate(plate, 0, 1, 1);
                    continue;
                }
                if (holds[plate] == BY_SPRINGS) {
                    long left = layout.strengths[first];
                    long right = layout.strengths[plate + 1];
                    long force = layout.sumOfLoads(first, plate)
                            + left * layout.lengths[first] - right * layout.lengths[plate + 1];
                    constant = divisor * force + left * constant;
                    long nextSlope = right * divisor;
                    divisor = (left + right) * divisor - left * slope;
                    slope = nextSlope;
                } else {
                    constant = holds[plate] == AT_LOWEST ? lowest[plate] : highest[first];
                    slope = 0;
                    divisor = 1;
                }
                putPlate(plate, constant, slope, divisor);
                first = plate + 1;
            }
        }

        private void putPlate(int plate, long constant, long slope, long divisor) {
            constants[plate] = constant;
            slopes[plate] = slope;
            divisors[plate] = divisor;
        }

        /** Finds each place, from the right to the left, up to one that is not allowed. */
        private boolean findPlaces(Layout layout) {
            long nextUpper = layout.width;
            long nextLower = 1;
            for (int plate = layout.plates - 1; plate >= 0; plate--) {
                long placeUpper = constants[plate] * nextLower + slopes[plate] * nextUpper;
                long placeLower = divisors[plate] * nextLower;
                long common = greatestDivisor(placeUpper, placeLower);
                if (common > 1) {
                    placeUpper /= common;
                    placeLower /= common;
                }
                if (placeUpper < lowest[plate] * placeLower || placeUpper > highest[plate] * placeLower
                        || placeUpper * nextLower > nextUpper * placeLower) {
                    return false;
                }
                uppers[plate] = placeUpper;
                lowers[plate] = placeLower;
                nextUpper = placeUpper;
                nextLower = placeLower;
            }
            return true;
        }

        private void shareLower(Layout layout) {
            lower = 1;
            for (int plate = 0; plate < layout.plates; plate++) {
                long common = greatestDivisor(lower, lowers[plate]);
                if (common > 0) {
                    lower = lower / common * lowers[plate];
                }
            }
            spots[0] = 0;
            for (int plate = 0; plate < layout.plates; plate++) {
                if (lowers[plate] > 0) {
                    spots[plate + 1] = uppers[plate] * (lower / lowers[plate]);
                }
            }
            spots[layout.plates + 1] = layout.width * lower;
        }

        private boolean nothingMoves(Layout layout) {
            for (int first = 0; first < layout.plates; first++) {
                for (int last = first; last < layout.plates; last++) {
                    if (spots[last + 1] != spots[first + 1]) {
                        break;
                    }
                    if (moveTogether(layout, first, last)) {
                        return false;
                    }
                }
            }
            return true;
        }

        /**
         * Of plates that touch, those at the right end can leave the others to the right, and those at the left end to
         * the left; it is enough to look at these, as all allowed moves are made up of them.
         */
        private boolean moveTogether(Layout layout, int first, int last) {
            long force = forceOn(layout, first, last);
            if (force > 0) {
                boolean blocked = last + 1 < layout.plates && touchesNext(last);
                return !blocked && !isAt(first, highest[first]);
            }
            if (force < 0) {
                boolean blocked = first > 0 && touchesNext(first - 1);
                return !blocked && !isAt(last, lowest[last]);
            }
            return false;
        }
    }

    /** The text, and what was found when it was last played. */
    private static final class Script {
        static final int NOT_OF_FORM = 1;
        static final int OUT_OF_RANGE = 2;
        static final int NOT_POSSIBLE_OTHERWISE = 3;
        private static final int NOTHING = -1;

        private final int[] characters = new int[MOST_CHARACTERS];
        int size = 0;
        int settings = 0;
        int reason = 0;
        int cause = 0;
        /** Where the latest setting that was read starts. */
        int start = 0;
        private int next = 0;
        private final int[] numbers = new int[3];
        private int numberCount = 0;

        int append(int character) {
            if (character < 32 || character > 126) {
                return INVALID_ARGUMENT;
            }
            if (size >= MOST_CHARACTERS) {
                return LIMIT_REACHED;
            }
            characters[size] = character;
            size++;
            return size;
        }

        /** Does all settings, up to the first one that is not possible; tells if there was none such. */
        boolean playOn(Layout layout) {
            settings = 0;
            next = 0;
            while (settings < MOST_CHARACTERS && next < size) {
                start = next;
                if (!isPossible(layout)) {
                    return false;
                }
                settings++;
            }
            return true;
        }

        private boolean isPossible(Layout layout) {
            if (!isOfForm()) {
                reason = NOT_OF_FORM;
                cause = next - start;
                return false;
            }
            int wrong = numberOutOfRange(layout);
            if (wrong != NOTHING) {
                reason = OUT_OF_RANGE;
                cause = wrong;
                return false;
            }
            if (isError(doSetting(layout))) {
                reason = NOT_POSSIBLE_OTHERWISE;
                return false;
            }
            return true;
        }

        private int characterAt(int position) {
            return position >= 0 && position < size ? characters[position] : NOTHING;
        }

        /** What has to follow a setting's letter: 0 is for a number, - for one that may be below 0. */
        private static String formAfter(int letter) {
            switch (letter) {
                case 'w':
                case 'x':
                    return "0;";
                case 'p':
                    return ";";
                case 'k':
                    return "0,0,0;";
                case 'f':
                    return "0,-;";
                case 'l':
                case 'r':
                    return "0,0;";
                default:
                    return "";
            }
        }

        /** Reads a setting; if it is not of the form, next is where it breaks off. */
        private boolean isOfForm() {
            numberCount = 0;
            String form = formAfter(characterAt(start));
            if (form.isEmpty()) {
                return false;
            }
            next = start + 1;
            for (int i = 0; i < form.length(); i++) {
                if (!readPart(form.charAt(i))) {
                    return false;
                }
            }
            return true;
        }

        private boolean readPart(char part) {
            if (part == '0') {
                return readNumber(1);
            }
            if (part == '-') {
                return readNumber(readCharacter('-') ? -1 : 1);
            }
            return readCharacter(part);
        }

        private boolean readCharacter(char character) {
            if (characterAt(next) != character) {
                return false;
            }
            next++;
            return true;
        }

        private boolean readNumber(int sign) {
            int number = 0;
            int digits = 0;
            while (digits < 2 && isDigit(characterAt(next))) {
                number = 10 * number + characterAt(next) - '0';
                next++;
                digits++;
            }
            if (digits == 0 || numberCount >= 3) {
                return false;
            }
            numbers[numberCount] = sign * number;
            numberCount++;
            return true;
        }

        private static boolean isDigit(int character) {
            return character >= '0' && character <= '9';
        }

        /** Tells the first number that is out of its range; a load of two digits never is. */
        private int numberOutOfRange(Layout layout) {
            switch (characterAt(start)) {
                case 'w':
                    return numbers[0] < NARROWEST ? 0 : NOTHING;
                case 'k':
                    if (!layout.hasSpring(numbers[0])) {
                        return 0;
                    }
                    if (numbers[1] < 1 || numbers[1] > STRONGEST) {
                        return 1;
                    }
                    return numbers[2] > LONGEST ? 2 : NOTHING;
                case 'f':
                case 'x':
                    return layout.hasPlate(numbers[0]) ? NOTHING : 0;
                case 'l':
                case 'r':
                    if (!layout.hasPlate(numbers[0])) {
                        return 0;
                    }
                    return numbers[1] > layout.width ? 1 : NOTHING;
                default:
                    return NOTHING;
            }
        }

        private int doSetting(Layout layout) {
            switch (characterAt(start)) {
                case 'w':
                    return layout.setWidth(numbers[0]);
                case 'p':
                    return layout.addPlate();
                case 'k':
                    return layout.setSpring(numbers[0], numbers[1], numbers[2]);
                case 'f':
                    return layout.setLoad(numbers[0], numbers[1]);
                case 'l':
                    return layout.setStop(numbers[0], LEFT, numbers[1]);
                case 'r':
                    return layout.setStop(numbers[0], RIGHT, numbers[1]);
                default:
                    // An x is possible, too, if the plate has no stops, so that it does not matter what these answer.
                    layout.removeStop(numbers[0], LEFT);
                    layout.removeStop(numbers[0], RIGHT);
                    return 0;
            }
        }
    }
}
