import java.util.ArrayDeque;
import java.util.ArrayList;
import java.util.Arrays;
import java.util.BitSet;
import java.util.Collections;
import java.util.Deque;
import java.util.HashMap;
import java.util.List;
import java.util.Map;
import java.util.TreeMap;
import java.util.TreeSet;
import java.util.regex.Pattern;

/**
 * The document in its plainest form, to compare the program with: states that are never changed, lumps that are
 * sets of places, each weight added up anew. It shares no thought with the program but the document.
 */
final class Model {
    private static final int UNKNOWN = -1, BAD_VALUE = -2, FULL = -3, NOT_POSSIBLE = -4, NONE = -5;

    /** A state; whoever wants another one makes another one. */
    private static final class State {
        final int places, start, fair;
        final int[][] weights;
        private List<Phase> phases;
        private TreeMap<Integer, Integer> partings;

        State(int places, int start, int fair, int[][] weights) {
            this.places = places;
            this.start = start;
            this.fair = fair;
            this.weights = weights;
        }

        State with(int one, int other, int weight) {
            int[][] copy = new int[places][];
            for (int i = 0; i < places; i++) {
                copy[i] = weights[i].clone();
            }
            copy[one][other] = copy[other][one] = weight;
            return new State(places, start, fair, copy);
        }

        State without(int place) {
            List<Integer> stay = new ArrayList<>();
            for (int i = 0; i < places; i++) {
                if (i != place) {
                    stay.add(i);
                }
            }
            int[][] copy = new int[places - 1][places - 1];
            for (int i = 0; i < stay.size(); i++) {
                for (int j = 0; j < stay.size(); j++) {
                    copy[i][j] = weights[stay.get(i)][stay.get(j)];
                }
            }
            return new State(places - 1, Math.max(stay.indexOf(start), 0), fair, copy);
        }

        State withOneMore() {
            int[][] copy = new int[places + 1][];
            for (int i = 0; i < places; i++) {
                copy[i] = Arrays.copyOf(weights[i], places + 1);
            }
            copy[places] = new int[places + 1];
            return new State(places + 1, start, fair, copy);
        }

        int between(TreeSet<Integer> some, TreeSet<Integer> others) {
            int sum = 0;
            for (int one : some) {
                for (int other : others) {
                    sum += weights[one][other];
                }
            }
            return sum;
        }

        TreeSet<Integer> places(int bits) {
            TreeSet<Integer> set = new TreeSet<>();
            BitSet.valueOf(new long[] {bits}).stream().forEach(set::add);
            return set;
        }

        /** All partings with their weights, by their sets. */
        TreeMap<Integer, Integer> partings() {
            if (partings == null) {
                partings = new TreeMap<>();
                int all = (1 << places) - 1;
                for (int set = 1; set < all; set++) {
                    if (set % 2 == 0) {
                        int sum = 0;
                        for (int one = 0; one < places; one++) {
                            for (int other = 0; other < places; other++) {
                                if ((set >> one & 1) == 1 && (set >> other & 1) == 0) {
                                    sum += weights[one][other];
                                }
                            }
                        }
                        partings.put(set, sum);
                    }
                }
            }
            return partings;
        }

        List<Integer> allLeast() {
            int least = Collections.min(partings().values());
            List<Integer> found = new ArrayList<>();
            for (Map.Entry<Integer, Integer> parting : partings().entrySet()) {
                if (parting.getValue() == least) {
                    found.add(parting.getKey());
                }
            }
            return found;
        }

        List<int[]> tight() {
            List<int[]> found = new ArrayList<>();
            for (int one = 0; one < places; one++) {
                for (int other = one + 1; other < places; other++) {
                    int both = 1 << one | 1 << other;
                    if (weights[one][other] > 0
                        && allLeast().stream().allMatch(set -> Integer.bitCount(set & both) == 1)) {
                        found.add(new int[] {one, other});
                    }
                }
            }
            return found;
        }

        List<Phase> phases() {
            if (phases == null) {
                phases = new ArrayList<>();
                List<TreeSet<Integer>> lumps = new ArrayList<>();
                for (int i = 0; i < places; i++) {
                    lumps.add(places(1 << i));
                }
                while (lumps.size() > 1) {
                    phases.add(new Phase(this, lumps));
                }
            }
            return phases;
        }

        Phase leastPhase() {
            return Collections.min(phases(), (a, b) -> Integer.compare(a.weight, b.weight));
        }

        TreeSet<Integer> reached(int place) {
            TreeSet<Integer> seen = new TreeSet<>();
            Deque<Integer> open = new ArrayDeque<>(List.of(place));
            while (!open.isEmpty()) {
                int at = open.pop();
                if (seen.add(at)) {
                    for (int other = 0; other < places; other++) {
                        if (weights[at][other] > 0) {
                            open.push(other);
                        }
                    }
                }
            }
            return seen;
        }
    }

    /** One phase: it takes the lumps as they are at its beginning, and leaves those at its end. */
    private static final class Phase {
        final int lumpCount;
        final List<TreeSet<Integer>> order = new ArrayList<>();
        final List<Integer> nearness = new ArrayList<>();
        final int set, weight, last, ahead, union;

        Phase(State web, List<TreeSet<Integer>> lumps) {
            lumpCount = lumps.size();
            TreeSet<Integer> group = new TreeSet<>();
            List<TreeSet<Integer>> outside = new ArrayList<>(lumps);
            outside.sort((a, b) -> Integer.compare(a.first(), b.first()));
            TreeSet<Integer> next = null;
            int near = 0;
            for (TreeSet<Integer> lump : outside) {
                if (lump.contains(web.start)) {
                    next = lump;
                }
            }
            while (next != null) {
                order.add(next);
                nearness.add(near);
                group.addAll(next);
                outside.remove(next);
                next = null;
                for (TreeSet<Integer> lump : outside) {
                    int weightToGroup = web.between(lump, group);
                    if (next == null || weightToGroup > near) {
                        next = lump;
                        near = weightToGroup;
                    }
                }
            }
            TreeSet<Integer> lastLump = order.get(lumpCount - 1);
            TreeSet<Integer> lumpAhead = order.get(lumpCount - 2);
            int all = (1 << web.places) - 1;
            set = lastLump.contains(0) ? all ^ bits(lastLump) : bits(lastLump);
            weight = nearness.get(lumpCount - 1);
            last = lastLump.first();
            ahead = lumpAhead.first();
            union = bits(lastLump) | bits(lumpAhead);
            lumps.remove(lastLump);
            lumps.remove(lumpAhead);
            TreeSet<Integer> both = new TreeSet<>(lastLump);
            both.addAll(lumpAhead);
            lumps.add(both);
        }
    }

    private static int bits(Iterable<Integer> places) {
        int set = 0;
        for (int place : places) {
            set |= 1 << place;
        }
        return set;
    }

    private static final Pattern TEXT = textOfTies();
    private static final String[] ENDS = {"", "0", "b0", "c0", "d0", "e0", "f0", "g0", "h0", "i0", "j0", "aj0"};
    private static final Map<String, Boolean> BEGINNINGS = new HashMap<>();

    private State now = new State(4, 0, 1, new int[4][4]);
    private State snapshot = null;
    private final List<State> history = new ArrayList<>();
    private String text = "";

    private static Pattern textOfTies() {
        StringBuilder pairs = new StringBuilder();
        for (char first = 'a'; first < 'j'; first++) {
            pairs.append(first == 'a' ? "" : "|").append(first).append('[').append((char) (first + 1)).append("-j]");
        }
        String tie = "(?:" + pairs + ")(?:0|[1-9][0-9]?)";
        return Pattern.compile(tie + "(?:," + tie + ")*");
    }

    /** Whether a text of ties can begin so. */
    private static boolean canBegin(String text) {
        return BEGINNINGS.computeIfAbsent(text, begin -> {
            for (String end : ENDS) {
                if (TEXT.matcher(begin + end).matches()) {
                    return true;
                }
            }
            return false;
        });
    }

    private static int fault(String text) {
        for (int at = 0; at < text.length(); at++) {
            if (!canBegin(text.substring(0, at + 1))) {
                return at;
            }
        }
        return TEXT.matcher(text).matches() ? -1 : text.length();
    }

    private void act(State then) {
        history.add(now);
        if (history.size() > 4) {
            history.remove(0);
        }
        now = then;
    }

    private boolean unknown(int place) {
        return place < 0 || place >= now.places;
    }

    int grow() {
        if (now.places == 10) {
            return FULL;
        }
        act(now.withOneMore());
        return now.places - 1;
    }

    int remove(int place) {
        if (unknown(place)) {
            return UNKNOWN;
        }
        if (now.places == 2) {
            return NOT_POSSIBLE;
        }
        act(now.without(place));
        return now.places;
    }

    int join(int one, int other) {
        if (unknown(one) || unknown(other)) {
            return UNKNOWN;
        }
        if (one == other) {
            return BAD_VALUE;
        }
        if (now.places == 2) {
            return NOT_POSSIBLE;
        }
        int low = Math.min(one, other);
        int high = Math.max(one, other);
        State then = now;
        for (int third = 0; third < now.places; third++) {
            if (third != one && third != other) {
                then = then.with(low, third, Math.min(99, now.weights[low][third] + now.weights[high][third]));
            }
        }
        int start = now.start == high ? low : now.start;
        act(new State(then.places, start, then.fair, then.weights).without(high));
        return now.places;
    }

    int tie(int one, int other, int weight) {
        if (unknown(one) || unknown(other)) {
            return UNKNOWN;
        }
        if (one == other || weight < 0 || weight > 99) {
            return BAD_VALUE;
        }
        int previous = now.weights[one][other];
        if (previous == weight) {
            return NONE;
        }
        act(now.with(one, other, weight));
        return previous;
    }

    int tieAll() {
        int fault = fault(text);
        if (fault >= 0) {
            return -100 - fault;
        }
        String[] ties = text.split(",");
        for (String tie : ties) {
            if (unknown(tie.charAt(0) - 'a') || unknown(tie.charAt(1) - 'a')) {
                return UNKNOWN;
            }
        }
        State then = now;
        for (String tie : ties) {
            then = then.with(tie.charAt(0) - 'a', tie.charAt(1) - 'a', Integer.parseInt(tie.substring(2)));
        }
        act(then);
        return ties.length;
    }

    int set(int which, int value) {
        if (which != 0 && which != 1) {
            return BAD_VALUE;
        }
        if (which == 0 ? unknown(value) : value < 1 || value > 5) {
            return BAD_VALUE;
        }
        int previous = which == 0 ? now.start : now.fair;
        if (previous == value) {
            return NONE;
        }
        act(new State(now.places, which == 0 ? value : now.start, which == 1 ? value : now.fair, now.weights));
        return previous;
    }

    int strengthen() {
        TreeSet<Integer> inside = now.places(now.leastPhase().set);
        for (int one = 0; one < now.places; one++) {
            for (int other = one + 1; other < now.places; other++) {
                int weight = now.weights[one][other];
                if (inside.contains(one) != inside.contains(other) && weight >= 1 && weight <= 98) {
                    act(now.with(one, other, weight + 1));
                    return 10 * one + other;
                }
            }
        }
        return NOT_POSSIBLE;
    }

    int type(char character) {
        if (text.length() == 60) {
            return FULL;
        }
        text += character;
        return text.length();
    }

    int clearText() {
        int length = text.length();
        text = "";
        return length;
    }

    int undo() {
        if (history.isEmpty()) {
            return NONE;
        }
        now = history.remove(history.size() - 1);
        return history.size();
    }

    int keep() {
        snapshot = now;
        return now.places;
    }

    int restore() {
        if (snapshot == null) {
            return NONE;
        }
        act(snapshot);
        return now.places;
    }

    int weight(int one, int other) {
        if (unknown(one) || unknown(other)) {
            return UNKNOWN;
        }
        return one == other ? BAD_VALUE : now.weights[one][other];
    }

    int place(int place, int what) {
        if (unknown(place)) {
            return UNKNOWN;
        }
        if (what < 0 || what > 5) {
            return BAD_VALUE;
        }
        if (what == 0) {
            return Arrays.stream(now.weights[place]).sum();
        }
        if (what == 1) {
            TreeSet<Integer> tied = new TreeSet<>();
            for (int other = 0; other < now.places; other++) {
                if (now.weights[place][other] > 0) {
                    tied.add(other);
                }
            }
            return bits(tied);
        }
        if (what == 2) {
            return bits(now.reached(place));
        }
        if (what == 3) {
            return (int) now.tight().stream().filter(pair -> pair[0] == place || pair[1] == place).count();
        }
        Phase first = now.phases().get(0);
        int rank = first.order.indexOf(now.places(1 << place));
        return what == 4 ? rank : first.nearness.get(rank);
    }

    int phase(int phase, int what) {
        if (phase < 0 || phase >= now.phases().size()) {
            return UNKNOWN;
        }
        if (what < 0 || what > 5) {
            return BAD_VALUE;
        }
        Phase told = now.phases().get(phase);
        return new int[] {told.set, told.weight, told.last, told.ahead, told.union, told.lumpCount}[what];
    }

    int swallowed(int phase, int rank, boolean near) {
        if (phase < 0 || phase >= now.phases().size()) {
            return UNKNOWN;
        }
        if (rank < 0) {
            return BAD_VALUE;
        }
        Phase told = now.phases().get(phase);
        if (rank >= told.lumpCount) {
            return NONE;
        }
        return near ? told.nearness.get(rank) : told.order.get(rank).first();
    }

    int least(int what) {
        if (what < 0 || what > 4) {
            return BAD_VALUE;
        }
        Phase least = now.leastPhase();
        if (what <= 2) {
            return what == 0 ? least.set : what == 1 ? least.weight : now.phases().indexOf(least);
        }
        List<Integer> fair = fair();
        if (fair.isEmpty()) {
            return NONE;
        }
        int set = Collections.min(fair, (a, b) -> Integer.compare(now.partings().get(a), now.partings().get(b)));
        return what == 3 ? set : now.partings().get(set);
    }

    private List<Integer> fair() {
        List<Integer> fair = new ArrayList<>(now.partings().keySet());
        fair.removeIf(set -> Math.min(Integer.bitCount(set), now.places - Integer.bitCount(set)) < now.fair);
        return fair;
    }

    int leastOf(int rank) {
        if (rank < 0) {
            return BAD_VALUE;
        }
        List<Integer> least = now.allLeast();
        return rank < least.size() ? least.get(rank) : NONE;
    }

    int between(int one, int other, int what) {
        if (unknown(one) || unknown(other)) {
            return UNKNOWN;
        }
        if (one == other || what < 0 || what > 1) {
            return BAD_VALUE;
        }
        int best = 0;
        for (int set : now.partings().descendingKeySet()) {
            TreeSet<Integer> inside = now.places(set);
            if (inside.contains(one) != inside.contains(other)
                && (best == 0 || now.partings().get(set) <= now.partings().get(best))) {
                best = set;
            }
        }
        return what == 0 ? best : now.partings().get(best);
    }

    int parting(int set) {
        return now.partings().getOrDefault(set, BAD_VALUE);
    }

    int wouldBe(int one, int other, int weight) {
        if (unknown(one) || unknown(other)) {
            return UNKNOWN;
        }
        if (one == other || weight < 0 || weight > 99) {
            return BAD_VALUE;
        }
        return Collections.min(now.with(one, other, weight).partings().values());
    }

    int tight(int rank) {
        if (rank < 0) {
            return BAD_VALUE;
        }
        List<int[]> tight = now.tight();
        return rank < tight.size() ? 10 * tight.get(rank)[0] + tight.get(rank)[1] : NONE;
    }

    int count(int what) {
        int ties = 0;
        int sum = 0;
        for (int one = 0; one < now.places; one++) {
            for (int other = 0; other < one; other++) {
                ties += Integer.signum(now.weights[one][other]);
                sum += now.weights[one][other];
            }
        }
        switch (what) {
            case 0: return now.places;
            case 1: return ties;
            case 2: return sum;
            case 3: return now.allLeast().size();
            case 4: return now.tight().size();
            case 5:
                TreeSet<Integer> parts = new TreeSet<>();
                for (int place = 0; place < now.places; place++) {
                    parts.add(now.reached(place).first());
                }
                return parts.size();
            case 6: return now.start;
            case 7: return now.fair;
            case 8: return fair().size();
            case 9: return history.size();
            case 10: return text.length();
            default: return BAD_VALUE;
        }
    }
}
