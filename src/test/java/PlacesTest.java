/** Promises 1 to 8: a new object, and what is done to places, ties and settings. */
public final class PlacesTest {
    private static final Checks checks = new Checks("PlacesTest");
    private static final int[] NO_PLACES = {-1, Integer.MIN_VALUE, Integer.MAX_VALUE, 10, 32, -32};

    public static void main(String[] args) {
        constants();
        aNewObject();
        grow();
        remove();
        removeAndTheStartingPlace();
        join();
        joinAndTheStartingPlace();
        tie();
        tieAll();
        tieAllInOrder();
        set();
        strengthen();
        strengthenTheFirstOfSeveral();
        checks.end();
    }

    private static void constants() {
        checks.part("the constants");
        checks.due("UNKNOWN", -1, PartedWebs.UNKNOWN);
        checks.due("BAD_VALUE", -2, PartedWebs.BAD_VALUE);
        checks.due("FULL", -3, PartedWebs.FULL);
        checks.due("NOT_POSSIBLE", -4, PartedWebs.NOT_POSSIBLE);
        checks.due("NONE", -5, PartedWebs.NONE);
    }

    private static void aNewObject() {
        checks.part("promise 1");
        PartedWebs x = new PartedWebs();
        checks.same("a new object", "4 start 0 fair 1: history 0 text 0", Webs.all(x));
        for (int one = 0; one < 4; one++) {
            for (int other = 0; other < 4; other++) {
                checks.due("weight(" + one + ", " + other + ")", one == other ? -2 : 0, x.weight(one, other));
            }
        }
        checks.due("weight(0, 4)", -1, x.weight(0, 4));
        checks.due("undo()", -5, x.undo());
        checks.due("restore()", -5, x.restore());
        checks.due("tieAll()", -100, x.tieAll());
        PartedWebs y = new PartedWebs();
        x.tie(0, 1, 5);
        x.set(1, 2);
        x.keep();
        Webs.type(x, "ab1");
        checks.same("another object", "4 start 0 fair 1: history 0 text 0", Webs.all(y));
        checks.due("restore() of another object", -5, y.restore());
    }

    private static void grow() {
        checks.part("promise 2");
        PartedWebs x = new PartedWebs();
        x.tie(0, 1, 7);
        for (int place = 4; place < 10; place++) {
            checks.due("grow()", place, x.grow());
            checks.due("count(0)", place + 1, x.count(0));
        }
        String before = Webs.all(x);
        checks.same("a full web", "10 start 0 fair 1: ab7 history 4 text 0", before);
        checks.due("grow() of 10 places", -3, x.grow());
        checks.same("a full web after grow()", before, Webs.all(x));
        checks.due("undo()", 3, x.undo());
        checks.same("after undo()", "9 start 0 fair 1: ab7", Webs.state(x));

        PartedWebs y = Webs.of(4, "ad9,bd8,cd7,ab1");
        y.remove(3);
        checks.due("grow() after remove(3)", 3, y.grow());
        checks.same("the new place has no ties", "4 start 0 fair 1: ab1", Webs.state(y));
        y.set(0, 3);
        checks.due("grow() with another starting place", 4, y.grow());
        checks.due("the starting place stays", 3, y.count(6));
    }

    private static void remove() {
        checks.part("promise 3");
        String ties = "ab12,ac13,ad14,ae15,bc23,bd24,be25,cd34,ce35,de45";
        String[] left = {"ab23,ac24,ad25,bc34,bd35,cd45", "ab13,ac14,ad15,bc34,bd35,cd45",
            "ab12,ac14,ad15,bc24,bd25,cd45", "ab12,ac13,ad15,bc23,bd25,cd35", "ab12,ac13,ad14,bc23,bd24,cd34"};
        for (int place = 0; place < 5; place++) {
            PartedWebs x = Webs.of(5, ties);
            String before = Webs.state(x);
            checks.due("remove(" + place + ")", 4, x.remove(place));
            checks.same("after remove(" + place + ")",
                "4 start 0 fair 1: " + left[place].replace(',', ' '), Webs.state(x));
            checks.due("weight(0, 4)", -1, x.weight(0, 4));
            checks.due("undo()", 3, x.undo());
            checks.same("after undo()", before, Webs.state(x));
        }
        PartedWebs y = Webs.of(4, "ab1,cd2");
        String before = Webs.all(y);
        checks.due("remove(4)", -1, y.remove(4));
        for (int place : NO_PLACES) {
            checks.due("remove(" + place + ")", -1, y.remove(place));
        }
        checks.same("after errors", before, Webs.all(y));
        checks.due("remove(0)", 3, y.remove(0));
        checks.due("remove(3)", -1, y.remove(3));
        checks.due("remove(0)", 2, y.remove(0));
        before = Webs.all(y);
        checks.same("two places", "2 start 0 fair 1: ab2 history 4 text 0", before);
        checks.due("remove(0) of two", -4, y.remove(0));
        checks.due("remove(1) of two", -4, y.remove(1));
        checks.due("remove(2) of two", -1, y.remove(2));
        checks.due("remove(-1) of two", -1, y.remove(-1));
        checks.same("two places after errors", before, Webs.all(y));
    }

    private static void removeAndTheStartingPlace() {
        int[][] cases = {{0, 0, 0}, {0, 3, 0}, {2, 0, 1}, {2, 1, 1}, {2, 2, 0}, {2, 3, 2}, {3, 3, 0}, {3, 0, 2}};
        for (int[] startRemovedThen : cases) {
            PartedWebs x = new PartedWebs();
            x.set(0, startRemovedThen[0]);
            x.remove(startRemovedThen[1]);
            checks.due("from " + startRemovedThen[0] + ", remove(" + startRemovedThen[1] + "), the start",
                startRemovedThen[2], x.count(6));
            x.undo();
            checks.due("the start after undo()", startRemovedThen[0], x.count(6));
        }
        PartedWebs x = new PartedWebs();
        x.set(1, 3);
        x.remove(0);
        checks.due("the least places of a fair part stay", 3, x.count(7));
    }

    private static void join() {
        checks.part("promise 4");
        String ties = "ab12,ac13,ad14,ae15,bc23,bd24,be25,cd34,ce35,de45";
        for (boolean turned : new boolean[] {false, true}) {
            PartedWebs x = Webs.of(5, ties);
            String before = Webs.state(x);
            checks.due("join of 1 and 3", 4, turned ? x.join(3, 1) : x.join(1, 3));
            checks.same("after the join of 1 and 3", "4 start 0 fair 1: ab26 ac13 ad15 bc57 bd70 cd35", Webs.state(x));
            checks.due("undo()", 3, x.undo());
            checks.same("after undo()", before, Webs.state(x));
        }
        PartedWebs x = Webs.of(4, "ac50,bc49,ad50,bd50,ab99,cd3");
        checks.due("join(0, 1)", 3, x.join(0, 1));
        checks.same("sums of 99 and 100", "3 start 0 fair 1: ab99 ac99 bc3", Webs.state(x));
        x = Webs.of(5, "ac99,bc99,ad1,ae98,be1,de5");
        x.set(1, 4);
        checks.due("join(1, 0)", 4, x.join(1, 0));
        checks.same("sums of 198 and less", "4 start 0 fair 4: ab99 ac1 ad99 cd5", Webs.state(x));

        // the tie of both is no tie to another place
        x = Webs.of(4, "ab7,ac1,bd2");
        checks.due("join(0, 1)", 3, x.join(0, 1));
        checks.due("grow()", 3, x.grow());
        checks.same("after it", "4 start 0 fair 1: ab1 ac2", Webs.state(x));
        checks.due("the weights of a", 3, x.place(0, 0));
        checks.due("the neighbours of a", 6, x.place(0, 1));

        String before = Webs.all(x);
        checks.due("join(0, 4)", -1, x.join(0, 4));
        checks.due("join(4, 0)", -1, x.join(4, 0));
        checks.due("join(7, 7)", -1, x.join(7, 7));
        checks.due("join(2, 2)", -2, x.join(2, 2));
        for (int place : NO_PLACES) {
            checks.due("join(0, " + place + ")", -1, x.join(0, place));
            checks.due("join(" + place + ", 0)", -1, x.join(place, 0));
            checks.due("join of " + place + " twice", -1, x.join(place, place));
        }
        checks.same("after errors", before, Webs.all(x));

        x = Webs.of(2, "ab5");
        before = Webs.all(x);
        checks.due("join(0, 1) of two", -4, x.join(0, 1));
        checks.due("join(1, 0) of two", -4, x.join(1, 0));
        checks.due("join(1, 1) of two", -2, x.join(1, 1));
        checks.due("join(1, 2) of two", -1, x.join(1, 2));
        checks.due("join(2, 2) of two", -1, x.join(2, 2));
        checks.same("two places after errors", before, Webs.all(x));
    }

    private static void joinAndTheStartingPlace() {
        int[][] cases = {{3, 1, 3, 1}, {1, 1, 3, 1}, {2, 1, 3, 2}, {4, 1, 3, 3}, {0, 1, 3, 0}, {3, 0, 1, 2},
            {4, 4, 0, 0}, {4, 3, 4, 3}, {2, 4, 2, 2}};
        for (int[] startOneOtherThen : cases) {
            PartedWebs x = Webs.of(5, "");
            x.set(0, startOneOtherThen[0]);
            x.join(startOneOtherThen[1], startOneOtherThen[2]);
            checks.due("from " + startOneOtherThen[0] + ", join(" + startOneOtherThen[1] + ", "
                + startOneOtherThen[2] + "), the start", startOneOtherThen[3], x.count(6));
        }
    }

    private static void tie() {
        checks.part("promise 5");
        PartedWebs x = new PartedWebs();
        checks.due("tie(0, 1, 5)", 0, x.tie(0, 1, 5));
        checks.due("tie(1, 0, 7)", 5, x.tie(1, 0, 7));
        checks.due("weight(0, 1)", 7, x.weight(0, 1));
        checks.due("weight(1, 0)", 7, x.weight(1, 0));
        checks.due("tie(2, 3, 99)", 0, x.tie(2, 3, 99));
        checks.due("count(9)", 3, x.count(9));
        String before = Webs.all(x);
        checks.due("tie(0, 1, 7)", -5, x.tie(0, 1, 7));
        checks.due("tie(1, 0, 7)", -5, x.tie(1, 0, 7));
        checks.due("tie(0, 2, 0)", -5, x.tie(0, 2, 0));
        checks.due("tie(0, 1, 100)", -2, x.tie(0, 1, 100));
        checks.due("tie(0, 1, -1)", -2, x.tie(0, 1, -1));
        checks.due("tie(0, 1, MAX)", -2, x.tie(0, 1, Integer.MAX_VALUE));
        checks.due("tie(0, 1, MIN)", -2, x.tie(0, 1, Integer.MIN_VALUE));
        checks.due("tie(2, 2, 5)", -2, x.tie(2, 2, 5));
        checks.due("tie(2, 2, 0)", -2, x.tie(2, 2, 0));
        checks.due("tie(2, 2, 100)", -2, x.tie(2, 2, 100));
        checks.due("tie(0, 4, 5)", -1, x.tie(0, 4, 5));
        checks.due("tie(4, 0, 100)", -1, x.tie(4, 0, 100));
        checks.due("tie(4, 4, 100)", -1, x.tie(4, 4, 100));
        for (int place : NO_PLACES) {
            checks.due("tie(0, " + place + ", -1)", -1, x.tie(0, place, -1));
            checks.due("tie(" + place + ", 0, 0)", -1, x.tie(place, 0, 0));
        }
        checks.same("after errors and NONE", before, Webs.all(x));
        checks.due("tie(3, 2, 0)", 99, x.tie(3, 2, 0));
        checks.same("after tie(3, 2, 0)", "4 start 0 fair 1: ab7 history 4 text 0", Webs.all(x));
        checks.due("undo()", 3, x.undo());
        checks.same("after undo()", before, Webs.all(x));
        PartedWebs y = Webs.of(10, "ij3,aj99,bi1");
        checks.same("ties of ten places", "10 start 0 fair 1: aj99 bi1 ij3", Webs.state(y));
    }

    private static void tieAll() {
        checks.part("promise 6");
        PartedWebs x = new PartedWebs();
        x.tie(0, 1, 50);
        x.tie(2, 3, 8);
        Webs.type(x, "ab0,bc7,ad99,cd10");
        checks.due("tieAll()", 4, x.tieAll());
        checks.same("after tieAll()", "4 start 0 fair 1: ad99 bc7 cd10 history 3 text 17", Webs.all(x));
        checks.due("tieAll() again", 4, x.tieAll());
        checks.due("it is an act though nothing is other", 4, x.count(9));
        checks.due("undo()", 3, x.undo());
        checks.due("undo()", 2, x.undo());
        checks.same("all of it is one act", "4 start 0 fair 1: ab50 cd8 history 2 text 17", Webs.all(x));

        Webs.retype(x, "ab1,bc2,de3");
        String before = Webs.all(x);
        checks.due("tieAll() with a place that is not there", -1, x.tieAll());
        checks.same("none of it", before, Webs.all(x));
        Webs.retype(x, "de3,ab1,");
        checks.due("tieAll() with a fault and such a place", -108, x.tieAll());
        Webs.retype(x, "ab1,ba2");
        before = Webs.all(x);
        checks.due("tieAll() with a fault", -105, x.tieAll());
        checks.same("none of it", before, Webs.all(x));
        x.clearText();
        checks.due("tieAll() of the empty text", -100, x.tieAll());
        x.grow();
        Webs.retype(x, "de3");
        checks.due("tieAll() with the place that has grown", 1, x.tieAll());
        checks.due("weight(3, 4)", 3, x.weight(3, 4));
        x.remove(4);
        checks.due("tieAll() without it", -1, x.tieAll());
    }

    private static void tieAllInOrder() {
        PartedWebs x = new PartedWebs();
        Webs.type(x, "ab5,cd1,ab7,cd2,ab6");
        checks.due("tieAll()", 5, x.tieAll());
        checks.same("the last one of a pair counts", "4 start 0 fair 1: ab6 cd2", Webs.state(x));
        StringBuilder most = new StringBuilder("ab1");
        for (int i = 2; i <= 15; i++) {
            most.append(",bc").append(i % 10);
        }
        Webs.retype(x, most.toString());
        checks.due("15 ties have 59 characters", 59, x.count(10));
        checks.due("tieAll() of 15 ties", 15, x.tieAll());
        checks.same("after 15 ties", "4 start 0 fair 1: ab1 bc5 cd2", Webs.state(x));
        checks.due("a second digit still fits", 60, x.type('9'));
        checks.due("tieAll() of 60 characters", 15, x.tieAll());
        checks.due("weight(1, 2)", 59, x.weight(1, 2));
    }

    private static void set() {
        checks.part("promise 7");
        PartedWebs x = new PartedWebs();
        checks.due("set(0, 3)", 0, x.set(0, 3));
        checks.due("set(0, 1)", 3, x.set(0, 1));
        checks.due("set(1, 5)", 1, x.set(1, 5));
        checks.same("after three", "4 start 1 fair 5: history 3 text 0", Webs.all(x));
        checks.due("set(0, 1) again", -5, x.set(0, 1));
        checks.due("set(1, 5) again", -5, x.set(1, 5));
        checks.due("set(0, 4)", -2, x.set(0, 4));
        checks.due("set(1, 0)", -2, x.set(1, 0));
        checks.due("set(1, 6)", -2, x.set(1, 6));
        for (int which : new int[] {-1, 2, 3, Integer.MIN_VALUE, Integer.MAX_VALUE}) {
            checks.due("set(" + which + ", 1)", -2, x.set(which, 1));
        }
        for (int value : new int[] {-1, 10, Integer.MIN_VALUE, Integer.MAX_VALUE}) {
            checks.due("set(0, " + value + ")", -2, x.set(0, value));
            checks.due("set(1, " + value + ")", -2, x.set(1, value));
        }
        checks.same("after errors and NONE", "4 start 1 fair 5: history 3 text 0", Webs.all(x));
        for (int value = 4; value >= 1; value--) {
            checks.due("set(1, " + value + ")", value + 1, x.set(1, value));
        }
        checks.due("set(0, 0)", 1, x.set(0, 0));
        x.undo();
        checks.same("after undo()", "4 start 1 fair 1: history 3 text 0", Webs.all(x));
        x.grow();
        checks.due("set(0, 4) of five places", 1, x.set(0, 4));
    }

    private static void strengthen() {
        checks.part("promise 8");
        PartedWebs x = new PartedWebs();
        checks.due("strengthen() without ties", -4, x.strengthen());
        checks.due("no act", 0, x.count(9));
        x = Webs.of(4, "ab9,bc8,cd3");
        checks.due("strengthen()", 23, x.strengthen());
        checks.due("weight(2, 3)", 4, x.weight(2, 3));
        checks.due("undo()", 3, x.undo());
        checks.due("weight(2, 3)", 3, x.weight(2, 3));
        // a tie of 99 in the least parting is passed over, one of 98 is not
        x = Webs.of(2, "ab99");
        checks.due("strengthen() of 99", -4, x.strengthen());
        checks.same("after it", "2 start 0 fair 1: ab99 history 3 text 0", Webs.all(x));
        x = Webs.of(2, "ab98");
        checks.due("strengthen() of 98", 1, x.strengthen());
        checks.due("weight(0, 1)", 99, x.weight(0, 1));
        checks.due("strengthen() then", -4, x.strengthen());
        x = Webs.of(2, "");
        checks.due("strengthen() of 0", -4, x.strengthen());
        x = Webs.of(2, "ab1");
        checks.due("strengthen() of 1", 1, x.strengthen());
        checks.due("weight(0, 1)", 2, x.weight(0, 1));
    }

    private static void strengthenTheFirstOfSeveral() {
        PartedWebs x = Webs.of(3, "ab99,bc98,ac97");
        checks.due("least(0)", 4, x.least(0));
        checks.due("strengthen() takes 02 ahead of 12", 2, x.strengthen());
        x.tie(0, 2, 99);
        x.tie(0, 1, 99);
        checks.due("least(1)", 197, x.least(1));
        checks.due("strengthen() passes 99", 12, x.strengthen());
        checks.due("weight(1, 2)", 99, x.weight(1, 2));
        checks.due("strengthen() then", -4, x.strengthen());
        // only ties of the least parting itself count, and pairs without a tie are passed over
        x = Webs.of(5, "ab5,bc5,ac5,de5,cd1,ce2");
        checks.due("least(0)", 24, x.least(0));
        checks.due("strengthen()", 23, x.strengthen());
        checks.due("strengthen()", 23, x.strengthen());
        checks.same("after it", "5 start 0 fair 1: ab5 ac5 bc5 cd3 ce2 de5", Webs.state(x));
        // the number of a pair is 10 times the lower place, of ten places too
        x = Webs.of(10, "ab9,bc9,cd9,de9,ef9,fg9,gh9,hi9,ij8");
        checks.due("strengthen()", 89, x.strengthen());
        checks.due("weight(8, 9)", 9, x.weight(8, 9));
    }
}
