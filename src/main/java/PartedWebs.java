/**
 * Webs that are parted in two by the least weight. The document (../shared/DOC.md) says what each
 * method promises; ../shared/LANGUAGE.md says in which part of Java this file is written.
 *
 * Every row is made by the constructor and used again, so that no call makes an object.
 */
public final class PartedWebs {
    public static final int UNKNOWN = -1;
    public static final int BAD_VALUE = -2;
    public static final int FULL = -3;
    public static final int NOT_POSSIBLE = -4;
    public static final int NONE = -5;

    private static final int FINE = 0;
    private static final int FEWEST_PLACES = 2;
    private static final int FIRST_PLACES = 4;
    private static final int MOST_PLACES = 10;
    private static final int MOST_PHASES = MOST_PLACES - 1;
    private static final int MOST_PAIRS = MOST_PLACES * (MOST_PLACES - 1) / 2;
    private static final int MOST_SETS = 1 << MOST_PLACES;
    private static final int MOST_PARTINGS = MOST_SETS / 2 - 1;
    private static final int MOST_WEIGHT = 99;
    private static final int MOST_FAIR_PLACES = 5;
    private static final int MOST_STATES = 4;
    private static final int MOST_SIGNS = 60;
    private static final int MOST_TIES = 15;
    private static final int NO_FAULT = -1;
    private static final int FAULTS = -100;

    private final Web web;
    private final Web snapshot;
    private boolean kept;
    private final History history;
    private final TieText text;
    private final Phases phases;
    private final Partings partings;

    public PartedWebs() {
        web = new Web();
        snapshot = new Web();
        kept = false;
        history = new History();
        text = new TieText();
        phases = new Phases();
        partings = new Partings();
    }

    // ---- places, ties

    public int grow() {
        if (web.places >= MOST_PLACES) {
            return FULL;
        }
        history.remember(web);
        web.addPlace();
        return web.places - 1;
    }

    public int remove(int place) {
        if (!web.has(place)) {
            return UNKNOWN;
        }
        if (web.places <= FEWEST_PLACES) {
            return NOT_POSSIBLE;
        }
        history.remember(web);
        web.dropPlace(place);
        return web.places;
    }

    public int join(int one, int other) {
        int error = pairError(one, other);
        if (error != FINE) {
            return error;
        }
        if (web.places <= FEWEST_PLACES) {
            return NOT_POSSIBLE;
        }
        history.remember(web);
        web.mergePlaces(Math.min(one, other), Math.max(one, other));
        return web.places;
    }

    public int tie(int one, int other, int weight) {
        int error = tieError(one, other, weight);
        if (error != FINE) {
            return error;
        }
        int previous = web.tieOf(one, other);
        if (previous == weight) {
            return NONE;
        }
        history.remember(web);
        web.bind(one, other, weight);
        return previous;
    }

    public int tieAll() {
        int fault = text.read();
        if (fault != NO_FAULT) {
            return FAULTS - fault;
        }
        if (!text.fits(web)) {
            return UNKNOWN;
        }
        history.remember(web);
        text.bindAll(web);
        return text.ties;
    }

    public int set(int which, int value) {
        switch (which) {
            case 0:
                return setStart(value);
            case 1:
                return setFairPlaces(value);
            default:
                return BAD_VALUE;
        }
    }

    private int setStart(int value) {
        int previous = web.start;
        if (!web.has(value)) {
            return BAD_VALUE;
        }
        if (value == previous) {
            return NONE;
        }
        history.remember(web);
        web.start = value;
        return previous;
    }

    private int setFairPlaces(int value) {
        int previous = web.fairPlaces;
        if (value < 1 || value > MOST_FAIR_PLACES) {
            return BAD_VALUE;
        }
        if (value == previous) {
            return NONE;
        }
        history.remember(web);
        web.fairPlaces = value;
        return previous;
    }

    public int strengthen() {
        phases.run(web);
        int set = phases.partingOf(phases.leastPhase());
        for (int lower = 0; lower < web.places; lower++) {
            for (int higher = lower + 1; higher < web.places; higher++) {
                int weight = web.tieOf(lower, higher);
                if (parts(set, lower, higher) && weight >= 1 && weight < MOST_WEIGHT) {
                    history.remember(web);
                    web.bind(lower, higher, weight + 1);
                    return pairNumber(lower, higher);
                }
            }
        }
        return NOT_POSSIBLE;
    }

    // ---- texts

    public int type(char character) {
        if (text.length >= MOST_SIGNS) {
            return FULL;
        }
        text.append(character);
        return text.length;
    }

    public int clearText() {
        int previous = text.length;
        text.length = 0;
        return previous;
    }

    // ---- history

    public int undo() {
        if (history.size <= 0) {
            return NONE;
        }
        history.takeBack(web);
        return history.size;
    }

    public int keep() {
        snapshot.copyFrom(web);
        kept = true;
        return web.places;
    }

    public int restore() {
        if (!kept) {
            return NONE;
        }
        history.remember(web);
        web.copyFrom(snapshot);
        return web.places;
    }

    // ---- what is told

    public int weight(int one, int other) {
        int error = pairError(one, other);
        if (error != FINE) {
            return error;
        }
        return web.tieOf(one, other);
    }

    public int place(int place, int what) {
        if (!web.has(place)) {
            return UNKNOWN;
        }
        switch (what) {
            case 0:
                return web.weightsOf(place);
            case 1:
                return web.neighboursOf(place);
            case 2:
                return web.reachedFrom(place);
            case 3:
                partings.measure(web);
                return partings.tightPairsOf(place);
            case 4:
                phases.run(web);
                return phases.firstRankOf(place);
            case 5:
                phases.run(web);
                return phases.nearnessAt(0, phases.firstRankOf(place));
            default:
                return BAD_VALUE;
        }
    }

    public int phase(int phase, int what) {
        if (!isPhase(phase)) {
            return UNKNOWN;
        }
        phases.run(web);
        int lumps = phases.lumpsIn(phase);
        switch (what) {
            case 0:
                return phases.partingOf(phase);
            case 1:
                return phases.weightIn(phase);
            case 2:
                return phases.nameAt(phase, lumps - 1);
            case 3:
                return phases.nameAt(phase, lumps - 2);
            case 4:
                return phases.unionIn(phase);
            case 5:
                return lumps;
            default:
                return BAD_VALUE;
        }
    }

    public int swallowed(int phase, int rank, boolean near) {
        if (!isPhase(phase)) {
            return UNKNOWN;
        }
        if (rank < 0) {
            return BAD_VALUE;
        }
        phases.run(web);
        if (rank >= phases.lumpsIn(phase)) {
            return NONE;
        }
        return near ? phases.nearnessAt(phase, rank) : phases.nameAt(phase, rank);
    }

    public int least(int what) {
        if (what < 0 || what > 4) {
            return BAD_VALUE;
        }
        return what <= 2 ? leastByPhases(what) : leastFair(what == 3);
    }

    private int leastByPhases(int what) {
        phases.run(web);
        int phase = phases.leastPhase();
        if (what == 0) {
            return phases.partingOf(phase);
        }
        return what == 1 ? phases.weightIn(phase) : phase;
    }

    private int leastFair(boolean tellsSet) {
        partings.measure(web);
        int set = partings.leastFair(web.fairPlaces);
        if (!partings.isParting(set)) {
            return NONE;
        }
        return tellsSet ? set : partings.weightOf(set);
    }

    public int leastOf(int rank) {
        if (rank < 0) {
            return BAD_VALUE;
        }
        partings.measure(web);
        return rank < partings.leastCount ? partings.leastAt(rank) : NONE;
    }

    public int between(int one, int other, int what) {
        int error = pairError(one, other);
        if (error != FINE) {
            return error;
        }
        if (what != 0 && what != 1) {
            return BAD_VALUE;
        }
        partings.measure(web);
        int set = partings.leastBetween(one, other);
        return what == 0 ? set : partings.weightOf(set);
    }

    public int parting(int set) {
        partings.measure(web);
        return partings.isParting(set) ? partings.weightOf(set) : BAD_VALUE;
    }

    public int wouldBe(int one, int other, int weight) {
        int error = tieError(one, other, weight);
        if (error != FINE) {
            return error;
        }
        partings.measure(web);
        return partings.leastWeightWith(one, other, weight - web.tieOf(one, other));
    }

    public int tight(int rank) {
        if (rank < 0) {
            return BAD_VALUE;
        }
        partings.measure(web);
        return rank < partings.tightCount ? partings.tightAt(rank) : NONE;
    }

    public int count(int what) {
        switch (what) {
            case 0:
                return web.places;
            case 1:
                return web.tieCount();
            case 2:
                return web.allWeights();
            case 3:
            case 4:
            case 8:
                return countPartings(what);
            case 5:
                return web.partCount();
            case 6:
                return web.start;
            case 7:
                return web.fairPlaces;
            case 9:
                return history.size;
            case 10:
                return text.length;
            default:
                return BAD_VALUE;
        }
    }

    private int countPartings(int what) {
        partings.measure(web);
        if (what == 3) {
            return partings.leastCount;
        }
        return what == 4 ? partings.tightCount : partings.fairCount(web.fairPlaces);
    }

    // ---- what several of them ask

    private int pairError(int one, int other) {
        if (!web.has(one) || !web.has(other)) {
            return UNKNOWN;
        }
        return one == other ? BAD_VALUE : FINE;
    }

    private int tieError(int one, int other, int weight) {
        int error = pairError(one, other);
        if (error != FINE) {
            return error;
        }
        return weight < 0 || weight > MOST_WEIGHT ? BAD_VALUE : FINE;
    }

    private boolean isPhase(int phase) {
        return phase >= 0 && phase < web.places - 1;
    }

    private static boolean parts(int set, int one, int other) {
        return holds(set, one) != holds(set, other);
    }

    private static boolean holds(int set, int place) {
        return (set & (1 << place)) != 0;
    }

    private static int pairNumber(int lower, int higher) {
        return 10 * lower + higher;
    }

    /** A state: the places, their ties and the settings. */
    private static final class Web {
        private int places;
        private int start;
        private int fairPlaces;
        private final int[] weights;

        Web() {
            places = FIRST_PLACES;
            start = 0;
            fairPlaces = 1;
            weights = new int[MOST_PLACES * MOST_PLACES];
        }

        void copyFrom(Web from) {
            places = from.places;
            start = from.start;
            fairPlaces = from.fairPlaces;
            System.arraycopy(from.weights, 0, weights, 0, weights.length);
        }

        boolean has(int place) {
            return place >= 0 && place < places;
        }

        int tieOf(int one, int other) {
            return has(one) && has(other) ? weights[one * MOST_PLACES + other] : 0;
        }

        void bind(int one, int other, int weight) {
            if (has(one) && has(other)) {
                weights[one * MOST_PLACES + other] = weight;
                weights[other * MOST_PLACES + one] = weight;
            }
        }

        void addPlace() {
            if (places >= MOST_PLACES) {
                return;
            }
            places++;
            // a place that was dropped may have left its weights here
            for (int other = 0; other < places; other++) {
                bind(places - 1, other, 0);
            }
        }

        void dropPlace(int place) {
            // a weight moves towards the front alone, so none is written over before it has moved
            for (int one = 0; one < places - 1; one++) {
                for (int other = 0; other < one; other++) {
                    int oneNow = one < place ? one : one + 1;
                    int otherNow = other < place ? other : other + 1;
                    bind(one, other, tieOf(oneNow, otherNow));
                }
            }
            places--;
            if (start == place) {
                start = 0;
            } else if (start > place) {
                start--;
            }
        }

        void mergePlaces(int lower, int higher) {
            for (int other = 0; other < places; other++) {
                if (other != lower && other != higher) {
                    int sum = tieOf(lower, other) + tieOf(higher, other);
                    bind(lower, other, Math.min(sum, MOST_WEIGHT));
                }
            }
            if (start == higher) {
                start = lower;
            }
            dropPlace(higher);
        }

        int weightsOf(int place) {
            int sum = 0;
            for (int other = 0; other < places; other++) {
                sum += tieOf(place, other);
            }
            return sum;
        }

        int neighboursOf(int place) {
            int set = 0;
            for (int other = 0; other < places; other++) {
                if (tieOf(place, other) > 0) {
                    set |= 1 << other;
                }
            }
            return set;
        }

        int reachedFrom(int place) {
            int set = 1 << place;
            // no way has more steps than there are places
            for (int step = 0; step < places; step++) {
                for (int at = 0; at < places; at++) {
                    if (holds(set, at)) {
                        set |= neighboursOf(at);
                    }
                }
            }
            return set;
        }

        int partCount() {
            int seen = 0;
            int found = 0;
            for (int place = 0; place < places; place++) {
                if (!holds(seen, place)) {
                    seen |= reachedFrom(place);
                    found++;
                }
            }
            return found;
        }

        int tieCount() {
            int ends = 0;
            for (int place = 0; place < places; place++) {
                ends += Integer.bitCount(neighboursOf(place));
            }
            return ends / 2;
        }

        int allWeights() {
            int sum = 0;
            for (int place = 0; place < places; place++) {
                sum += weightsOf(place);
            }
            return sum / 2;
        }
    }

    /** The states that undo can bring back, the oldest one first. */
    private static final class History {
        private final Web[] states;
        private int size;

        History() {
            states = new Web[MOST_STATES];
            for (int at = 0; at < MOST_STATES; at++) {
                states[at] = new Web();
            }
            size = 0;
        }

        void remember(Web web) {
            if (size >= MOST_STATES) {
                dropOldest();
            }
            states[size].copyFrom(web);
            size++;
        }

        private void dropOldest() {
            // the oldest one's rows are used again for the latest one
            Web oldest = states[0];
            for (int at = 1; at < MOST_STATES; at++) {
                states[at - 1] = states[at];
            }
            states[MOST_STATES - 1] = oldest;
            size = MOST_STATES - 1;
        }

        void takeBack(Web web) {
            if (size > 0) {
                size--;
                web.copyFrom(states[size]);
            }
        }
    }

    /** The text, and the ties that were read from it last. */
    private static final class TieText {
        private static final int FIRST_LETTER = 0;
        private static final int SECOND_LETTER = 1;
        private static final int DIGIT = 2;
        private static final int DIGIT_OR_END = 3;
        private static final int END = 4;

        private final char[] signs;
        private int length;
        private final int[] lowers;
        private final int[] highers;
        private final int[] weights;
        private int ties;
        private int due;
        private int lower;
        private int higher;

        TieText() {
            signs = new char[MOST_SIGNS];
            length = 0;
            lowers = new int[MOST_TIES];
            highers = new int[MOST_TIES];
            weights = new int[MOST_TIES];
            ties = 0;
            due = FIRST_LETTER;
        }

        void append(char sign) {
            if (length < MOST_SIGNS) {
                signs[length] = sign;
                length++;
            }
        }

        /** Reads the ties; returns the fault, or NO_FAULT. */
        int read() {
            ties = 0;
            due = FIRST_LETTER;
            for (int at = 0; at < length; at++) {
                if (!takes(signs[at])) {
                    return at;
                }
            }
            return due == DIGIT_OR_END || due == END ? NO_FAULT : length;
        }

        private boolean takes(char sign) {
            switch (due) {
                case FIRST_LETTER:
                    return takesFirstLetter(sign);
                case SECOND_LETTER:
                    return takesSecondLetter(sign);
                case DIGIT:
                    return takesFirstDigit(sign);
                case DIGIT_OR_END:
                    return takesSecondDigit(sign) || takesComma(sign);
                default:
                    return takesComma(sign);
            }
        }

        private boolean takesFirstLetter(char sign) {
            lower = sign - 'a';
            due = SECOND_LETTER;
            return lower >= 0 && lower < MOST_PLACES - 1;
        }

        private boolean takesSecondLetter(char sign) {
            higher = sign - 'a';
            due = DIGIT;
            return higher > lower && higher < MOST_PLACES;
        }

        private boolean takesFirstDigit(char sign) {
            if (!isDigit(sign) || ties >= MOST_TIES) {
                return false;
            }
            lowers[ties] = lower;
            highers[ties] = higher;
            weights[ties] = sign - '0';
            ties++;
            due = sign == '0' ? END : DIGIT_OR_END;
            return true;
        }

        private boolean takesSecondDigit(char sign) {
            if (!isDigit(sign) || ties < 1) {
                return false;
            }
            weights[ties - 1] = 10 * weights[ties - 1] + (sign - '0');
            due = END;
            return true;
        }

        private boolean takesComma(char sign) {
            due = FIRST_LETTER;
            return sign == ',';
        }

        private static boolean isDigit(char sign) {
            return sign >= '0' && sign <= '9';
        }

        boolean fits(Web web) {
            for (int at = 0; at < ties; at++) {
                if (!web.has(highers[at])) {
                    return false;
                }
            }
            return true;
        }

        void bindAll(Web web) {
            for (int at = 0; at < ties; at++) {
                web.bind(lowers[at], highers[at], weights[at]);
            }
        }
    }

    /** What the phases of the web that was run last told; lumps stand in the rows at their names. */
    private static final class Phases {
        private int places;
        private final int[] members;
        private final int[] ties;
        private final int[] nears;
        private final int[] names;
        private final int[] nearnesses;
        private final int[] partings;
        private final int[] unions;

        Phases() {
            places = 0;
            members = new int[MOST_PLACES];
            ties = new int[MOST_PLACES * MOST_PLACES];
            nears = new int[MOST_PLACES];
            names = new int[MOST_PHASES * MOST_PLACES];
            nearnesses = new int[MOST_PHASES * MOST_PLACES];
            partings = new int[MOST_PHASES];
            unions = new int[MOST_PHASES];
        }

        void run(Web web) {
            begin(web);
            for (int phase = 0; phase < places - 1; phase++) {
                swallowAll(phase, nameOfLumpWith(web.start));
                endPhase(phase);
            }
        }

        private void begin(Web web) {
            places = web.places;
            for (int name = 0; name < places; name++) {
                members[name] = 1 << name;
                for (int other = 0; other < places; other++) {
                    ties[name * MOST_PLACES + other] = web.tieOf(name, other);
                }
            }
        }

        private int nameOfLumpWith(int place) {
            for (int name = 0; name < places; name++) {
                if (holds(members[name], place)) {
                    return name;
                }
            }
            return 0;
        }

        private void swallowAll(int phase, int first) {
            int waiting = 0;
            for (int name = 0; name < places; name++) {
                nears[name] = 0;
                if (members[name] != 0) {
                    waiting |= 1 << name;
                }
            }
            int next = first;
            for (int rank = 0; rank < lumpsIn(phase); rank++) {
                names[phase * MOST_PLACES + rank] = next;
                nearnesses[phase * MOST_PLACES + rank] = nears[next];
                waiting &= ~(1 << next);
                drawNearer(waiting, next);
                next = nearestOf(waiting);
            }
        }

        private void drawNearer(int waiting, int swallowed) {
            for (int name = 0; name < places; name++) {
                if (holds(waiting, name)) {
                    nears[name] += ties[swallowed * MOST_PLACES + name];
                }
            }
        }

        private int nearestOf(int waiting) {
            int nearest = 0;
            int most = -1;
            for (int name = 0; name < places; name++) {
                if (holds(waiting, name) && nears[name] > most) {
                    nearest = name;
                    most = nears[name];
                }
            }
            return nearest;
        }

        private void endPhase(int phase) {
            int last = nameAt(phase, lumpsIn(phase) - 1);
            int ahead = nameAt(phase, lumpsIn(phase) - 2);
            int all = (1 << places) - 1;
            partings[phase] = holds(members[last], 0) ? all & ~members[last] : members[last];
            unite(Math.min(last, ahead), Math.max(last, ahead));
            unions[phase] = members[Math.min(last, ahead)];
        }

        private void unite(int lower, int higher) {
            members[lower] |= members[higher];
            members[higher] = 0;
            for (int name = 0; name < places; name++) {
                int sum = ties[lower * MOST_PLACES + name] + ties[higher * MOST_PLACES + name];
                ties[lower * MOST_PLACES + name] = sum;
                ties[name * MOST_PLACES + lower] = sum;
            }
        }

        private boolean isPhase(int phase) {
            return phase >= 0 && phase < places - 1;
        }

        int lumpsIn(int phase) {
            return places - phase;
        }

        int partingOf(int phase) {
            return isPhase(phase) ? partings[phase] : 0;
        }

        int unionIn(int phase) {
            return isPhase(phase) ? unions[phase] : 0;
        }

        int weightIn(int phase) {
            return nearnessAt(phase, lumpsIn(phase) - 1);
        }

        int nameAt(int phase, int rank) {
            return isRank(phase, rank) ? names[phase * MOST_PLACES + rank] : 0;
        }

        int nearnessAt(int phase, int rank) {
            return isRank(phase, rank) ? nearnesses[phase * MOST_PLACES + rank] : 0;
        }

        private boolean isRank(int phase, int rank) {
            return isPhase(phase) && rank >= 0 && rank < lumpsIn(phase);
        }

        int firstRankOf(int place) {
            int found = 0;
            for (int rank = 0; rank < places; rank++) {
                if (nameAt(0, rank) == place) {
                    found = rank;
                }
            }
            return found;
        }

        int leastPhase() {
            int best = 0;
            for (int phase = 1; phase < places - 1; phase++) {
                if (weightIn(phase) < weightIn(best)) {
                    best = phase;
                }
            }
            return best;
        }
    }

    /** All partings of the web that was measured last; their weights stand in the row at their sets. */
    private static final class Partings {
        private int places;
        private int end;
        private final int[] weights;
        private final int[] pulls;
        private int leastWeight;
        private int leastCount;
        private final int[] leastSets;
        private int tightCount;
        private final int[] tightPairs;

        Partings() {
            places = 0;
            end = 0;
            weights = new int[MOST_SETS];
            pulls = new int[MOST_SETS / 2];
            leastWeight = 0;
            leastCount = 0;
            leastSets = new int[MOST_PARTINGS];
            tightCount = 0;
            tightPairs = new int[MOST_PAIRS];
        }

        void measure(Web web) {
            places = web.places;
            end = 1 << places;
            for (int place = 1; place < places; place++) {
                measurePulls(web, place);
                measureWith(web, place);
            }
            findLeast();
            findTight(web);
        }

        /** Measures how heavily the place is tied to each set of lower places without the place 0. */
        private void measurePulls(Web web, int place) {
            for (int lower = 1; lower < place; lower++) {
                int weight = web.tieOf(lower, place);
                for (int set = 0; set < 1 << lower; set += 2) {
                    pulls[set | (1 << lower)] = pulls[set] + weight;
                }
            }
        }

        private void measureWith(Web web, int place) {
            int all = web.weightsOf(place);
            for (int set = 0; set < 1 << place; set += 2) {
                // the ties into the set were cut without the place, and are cut no more with it
                weights[set | (1 << place)] = weights[set] + all - 2 * pulls[set];
            }
        }

        private void findLeast() {
            leastCount = 0;
            for (int set = 2; set < end; set += 2) {
                if (leastCount == 0 || weights[set] < leastWeight) {
                    leastWeight = weights[set];
                    leastCount = 0;
                }
                if (weights[set] == leastWeight) {
                    leastSets[leastCount] = set;
                    leastCount++;
                }
            }
        }

        private void findTight(Web web) {
            tightCount = 0;
            for (int lower = 0; lower < places; lower++) {
                for (int higher = lower + 1; higher < places; higher++) {
                    if (web.tieOf(lower, higher) > 0 && partedByAllLeast(lower, higher)) {
                        tightPairs[tightCount] = pairNumber(lower, higher);
                        tightCount++;
                    }
                }
            }
        }

        private boolean partedByAllLeast(int lower, int higher) {
            for (int rank = 0; rank < leastCount; rank++) {
                if (!parts(leastSets[rank], lower, higher)) {
                    return false;
                }
            }
            return true;
        }

        boolean isParting(int set) {
            return set > 0 && set < end && !holds(set, 0);
        }

        int weightOf(int set) {
            return isParting(set) ? weights[set] : 0;
        }

        int leastAt(int rank) {
            return rank >= 0 && rank < leastCount ? leastSets[rank] : 0;
        }

        int tightAt(int rank) {
            return rank >= 0 && rank < tightCount ? tightPairs[rank] : 0;
        }

        int tightPairsOf(int place) {
            int found = 0;
            for (int rank = 0; rank < tightCount; rank++) {
                if (tightPairs[rank] / 10 == place || tightPairs[rank] % 10 == place) {
                    found++;
                }
            }
            return found;
        }

        private boolean isFair(int set, int fewest) {
            int inside = Integer.bitCount(set);
            return inside >= fewest && places - inside >= fewest;
        }

        int fairCount(int fewest) {
            int found = 0;
            for (int set = 2; set < end; set += 2) {
                if (isFair(set, fewest)) {
                    found++;
                }
            }
            return found;
        }

        /** Returns the set of the least fair parting, or 0, which is no parting. */
        int leastFair(int fewest) {
            int best = 0;
            for (int set = 2; set < end; set += 2) {
                if (isFair(set, fewest) && (best == 0 || weights[set] < weights[best])) {
                    best = set;
                }
            }
            return best;
        }

        int leastBetween(int one, int other) {
            int best = 0;
            for (int set = 2; set < end; set += 2) {
                if (parts(set, one, other) && (best == 0 || weights[set] < weights[best])) {
                    best = set;
                }
            }
            return best;
        }

        /** Returns the least weight if the weight of the two places was so much more. */
        int leastWeightWith(int one, int other, int more) {
            int best = -1;
            for (int set = 2; set < end; set += 2) {
                int weight = parts(set, one, other) ? weights[set] + more : weights[set];
                if (best < 0 || weight < best) {
                    best = weight;
                }
            }
            return best;
        }
    }
}
