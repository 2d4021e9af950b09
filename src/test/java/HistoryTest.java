/** Promises 11 to 13: the history and the snapshot. */
public final class HistoryTest {
    private static final Checks checks = new Checks("HistoryTest");

    public static void main(String[] args) {
        undo();
        undoOfMoreThanFour();
        undoOfPlaces();
        everyActIsRecorded();
        nothingElseIsRecorded();
        keep();
        restore();
        restoreOfOtherSizes();
        checks.end();
    }

    private static void undo() {
        checks.part("promise 11");
        PartedWebs x = new PartedWebs();
        checks.due("undo() of an empty history", -5, x.undo());
        x.tie(0, 1, 5);
        x.set(0, 3);
        x.set(1, 4);
        checks.same("before undo()", "4 start 3 fair 4: ab5 history 3 text 0", Webs.all(x));
        checks.due("undo()", 2, x.undo());
        checks.same("after the first", "4 start 3 fair 1: ab5 history 2 text 0", Webs.all(x));
        checks.due("undo()", 1, x.undo());
        checks.same("after the second", "4 start 0 fair 1: ab5 history 1 text 0", Webs.all(x));
        checks.due("undo()", 0, x.undo());
        checks.same("after the third", "4 start 0 fair 1: history 0 text 0", Webs.all(x));
        checks.due("undo() then", -5, x.undo());
        checks.same("after NONE", "4 start 0 fair 1: history 0 text 0", Webs.all(x));
        x.tie(2, 3, 9);
        x.undo();
        x.tie(1, 2, 8);
        checks.due("an undo leaves room", 1, x.count(9));
        checks.due("undo()", 0, x.undo());
        checks.same("after all", "4 start 0 fair 1: history 0 text 0", Webs.all(x));
    }

    private static void undoOfMoreThanFour() {
        PartedWebs x = new PartedWebs();
        for (int weight = 1; weight <= 9; weight++) {
            x.tie(0, 1, weight);
            checks.due("count(9)", Math.min(weight, 4), x.count(9));
        }
        for (int left = 3; left >= 0; left--) {
            checks.due("undo()", left, x.undo());
            checks.due("weight(0, 1)", 5 + left, x.weight(0, 1));
        }
        checks.due("undo() of a fifth", -5, x.undo());
        checks.due("weight(0, 1)", 5, x.weight(0, 1));
        // after states were dropped and taken back, the order still holds
        x.tie(0, 1, 20);
        x.tie(0, 1, 21);
        x.undo();
        x.tie(0, 1, 22);
        x.tie(0, 1, 23);
        x.tie(0, 1, 24);
        x.tie(0, 1, 25);
        int[] told = {24, 23, 22, 20};
        for (int i = 0; i < 4; i++) {
            checks.due("undo()", 3 - i, x.undo());
            checks.due("weight(0, 1)", told[i], x.weight(0, 1));
        }
        checks.due("undo() then", -5, x.undo());
    }

    private static void undoOfPlaces() {
        PartedWebs x = Webs.of(4, "ad3,bd4,cd5");
        x.remove(3);
        x.remove(0);
        x.grow();
        x.grow();
        checks.same("after two and two", "4 start 0 fair 1: history 4 text 0", Webs.all(x));
        String[] told = {"3 start 0 fair 1:", "2 start 0 fair 1:", "3 start 0 fair 1:", "4 start 0 fair 1: ad3 bd4 cd5"};
        for (String state : told) {
            x.undo();
            checks.same("after undo()", state, Webs.state(x));
        }
    }

    /** Each act, then undo: the state is as it was, and the text and the snapshot stay. */
    private static void everyActIsRecorded() {
        for (int act = 0; act < 9; act++) {
            PartedWebs x = new PartedWebs();
            Webs.type(x, "ab5,bc5,cd5,ad5");
            x.tieAll();
            x.keep();
            x.set(0, 2);
            Webs.retype(x, "ab6,bc7,ac12");
            String before = Webs.all(x);
            String state = Webs.state(x);
            checks.holds("act " + act + " is no error", act(x, act) >= 0);
            checks.due("count(9) after act " + act, 3, x.count(9));
            checks.holds("act " + act + " changes the state", !Webs.state(x).equals(state));
            checks.due("undo() of act " + act, 2, x.undo());
            checks.same("after undo() of act " + act, before, Webs.all(x));
            x.restore();
            checks.same("the snapshot after act " + act, "4 start 0 fair 1: ab5 ad5 bc5 cd5", Webs.state(x));
        }
    }

    private static int act(PartedWebs x, int act) {
        switch (act) {
            case 0: return x.grow();
            case 1: return x.remove(1);
            case 2: return x.join(1, 3);
            case 3: return x.tie(0, 2, 9);
            case 4: return x.tieAll();
            case 5: return x.set(0, 1);
            case 6: return x.set(1, 2);
            case 7: return x.strengthen();
            default: return x.restore();
        }
    }

    private static void nothingElseIsRecorded() {
        PartedWebs x = Webs.of(4, "ab5,bc6,cd7");
        String state = Webs.state(x);
        x.keep();
        x.type('a');
        x.clearText();
        x.tieAll();
        x.weight(0, 1);
        for (int what = -1; what <= 11; what++) {
            x.place(1, what);
            x.phase(1, what);
            x.least(what);
            x.leastOf(what);
            x.between(1, 2, what);
            x.parting(what);
            x.wouldBe(1, 2, what);
            x.tight(what);
            x.count(what);
            x.swallowed(1, what, false);
        }
        checks.same("after keep(), texts and all that tells", state + " history 3 text 0", Webs.all(x));
    }

    private static void keep() {
        checks.part("promise 12");
        PartedWebs x = Webs.of(5, "ab1");
        checks.due("keep()", 5, x.keep());
        x.remove(0);
        checks.due("restore()", 5, x.restore());
        checks.same("the first snapshot", "5 start 0 fair 1: ab1", Webs.state(x));
        x.tie(0, 1, 2);
        x.set(0, 4);
        x.set(1, 2);
        x.grow();
        checks.due("keep()", 6, x.keep());
        x.tie(0, 1, 3);
        x.set(0, 0);
        x.set(1, 3);
        checks.due("restore()", 6, x.restore());
        checks.same("the second snapshot", "6 start 4 fair 2: ab2", Webs.state(x));
        checks.due("keep() of the same", 6, x.keep());
        checks.due("keep() is no act", 4, x.count(9));
        checks.due("undo()", 3, x.undo());
        checks.same("after undo()", "6 start 0 fair 3: ab3", Webs.state(x));
        x.restore();
        checks.same("undo() does not touch the snapshot", "6 start 4 fair 2: ab2", Webs.state(x));
    }

    private static void restore() {
        checks.part("promise 13");
        PartedWebs x = new PartedWebs();
        x.tie(0, 1, 9);
        checks.due("restore() without a snapshot", -5, x.restore());
        checks.same("after NONE", "4 start 0 fair 1: ab9 history 1 text 0", Webs.all(x));
        x.keep();
        Webs.type(x, "ab12");
        checks.due("restore() of what is there", 4, x.restore());
        checks.same("it is an act still", "4 start 0 fair 1: ab9 history 2 text 4", Webs.all(x));
        x.tie(0, 1, 8);
        checks.due("restore()", 4, x.restore());
        checks.due("weight(0, 1)", 9, x.weight(0, 1));
        x.tie(0, 1, 7);
        checks.due("the snapshot stays", 4, x.restore());
        checks.due("weight(0, 1)", 9, x.weight(0, 1));
        checks.due("undo()", 3, x.undo());
        checks.due("weight(0, 1)", 7, x.weight(0, 1));
        checks.due("the text stays", 4, x.count(10));
    }

    private static void restoreOfOtherSizes() {
        PartedWebs x = Webs.of(2, "ab4");
        x.keep();
        for (int i = 0; i < 8; i++) {
            x.grow();
            x.tie(0, i + 2, 9);
        }
        checks.due("restore() of two places", 2, x.restore());
        checks.same("two places", "2 start 0 fair 1: ab4", Webs.state(x));
        checks.due("grow()", 2, x.grow());
        checks.same("a new place", "3 start 0 fair 1: ab4", Webs.state(x));
        x.undo();
        x.undo();
        checks.same("ten places", "10 start 0 fair 1: ab4 ac9 ad9 ae9 af9 ag9 ah9 ai9 aj9", Webs.state(x));
        checks.due("keep()", 10, x.keep());
        Webs.resize(x, 2);
        checks.due("restore() of ten places", 10, x.restore());
        checks.same("ten places", "10 start 0 fair 1: ab4 ac9 ad9 ae9 af9 ag9 ah9 ai9 aj9", Webs.state(x));
    }
}
