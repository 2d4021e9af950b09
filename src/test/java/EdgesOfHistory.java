import java.util.function.ToIntFunction;

/** Sentences of promises 11 to 13, of HISTORY and of ERRORS, and those of each act, that name a boundary case. */
final class EdgesOfHistory {
    private static final String CHAIN = "ab7,bc5,cd3,de4";

    private EdgesOfHistory() {
    }

    static void addTo(Edges edges) {
        history(edges);
        undo(edges);
        acts(edges);
        noActs(edges);
        states(edges);
        keep(edges);
        restore(edges);
        errors(edges);
        longRuns(edges);
    }

    private static void history(Edges edges) {
        edges.add("HISTORY", "A history of at most 4 states is kept", "no acts, four, five, and many", checks -> {
            PartedWebs x = new PartedWebs();
            checks.due("count(9) at first", 0, x.count(9));
            for (int weight = 1; weight <= 20; weight++) {
                x.tie(0, 1, weight);
                checks.due("count(9) after " + weight + " acts", Math.min(weight, 4), x.count(9));
            }
        });
        edges.add("HISTORY", "when one more is recorded, the oldest one is dropped",
            "the fifth act, and many", checks -> {
            for (int acts : new int[] {5, 6, 9, 23}) {
                PartedWebs x = new PartedWebs();
                for (int weight = 1; weight <= acts; weight++) {
                    x.tie(0, 1, weight);
                }
                for (int left = 3; left >= 0; left--) {
                    x.undo();
                    checks.due("weight(0, 1) after " + acts + " acts and undo()", acts - 4 + left, x.weight(0, 1));
                }
                checks.due("undo() then", Edges.NONE, x.undo());
            }
        });
        edges.add("HISTORY", "undo() removes and restores the latest one.", "after states were dropped and taken back",
            checks -> {
                PartedWebs x = new PartedWebs();
                for (int weight = 1; weight <= 6; weight++) {
                    x.tie(0, 1, weight);
                }
                x.undo();
                x.undo();
                x.tie(0, 1, 30);
                x.tie(0, 1, 31);
                x.tie(0, 1, 32);
                int[] told = {31, 30, 4, 3};
                for (int weight : told) {
                    x.undo();
                    checks.due("weight(0, 1) after undo()", weight, x.weight(0, 1));
                }
            });
    }

    private static void undo(Edges edges) {
        edges.add("promise 11", "Removes and restores the latest state", "of two places and of ten", checks -> {
            PartedWebs x = Webs.of(10, "aj9,ij8");
            x.remove(0);
            x.undo();
            checks.same("ten places after undo()", "10 start 0 fair 1: aj9 ij8", Webs.state(x));
            x.tie(9, 8, 1);
            x.undo();
            checks.due("weight(8, 9) after undo()", 8, x.weight(8, 9));
            checks.due("weight(9, 8) after undo()", 8, x.weight(9, 8));
            x = Webs.of(2, "ab7");
            x.grow();
            x.undo();
            checks.same("two places after undo()", "2 start 0 fair 1: ab7", Webs.state(x));
        });
        edges.add("promise 11", "Returns the number of states that are left", "3 to 0", checks -> {
            PartedWebs x = Webs.laden(4, "");
            for (int left = 3; left >= 0; left--) {
                checks.due("undo()", left, x.undo());
                checks.due("count(9)", left, x.count(9));
            }
        });
        edges.add("promise 11", "NONE if the history is empty.", "at first, and when all is taken back", checks -> {
            PartedWebs one = new PartedWebs();
            one.grow();
            checks.due("undo() of one state", 0, one.undo());
            checks.due("undo() then", Edges.NONE, one.undo());
            Edges.refused(checks, "undo() of a new object", Edges.NONE, PartedWebs::new, x -> x.undo());
            Edges.refused(checks, "undo() of an empty history", Edges.NONE, EdgesOfHistory::emptied, x -> x.undo());
        });
    }

    /** A web whose history was full and is empty now. */
    private static PartedWebs emptied() {
        PartedWebs x = Webs.laden(5, CHAIN);
        for (int i = 0; i < 4; i++) {
            x.undo();
        }
        return x;
    }

    private static void acts(Edges edges) {
        act(edges, "promise 2", "This is an act.", x -> x.grow());
        act(edges, "promise 3", "This is an act.", x -> x.remove(2));
        act(edges, "promise 4", "This is an act.", x -> x.join(0, 3));
        act(edges, "promise 5", "This is an act.", x -> x.tie(0, 1, 99));
        act(edges, "promise 6", "This is one act.", x -> x.tieAll());
        act(edges, "promise 7", "Sets a setting. This is an act.", x -> x.set(0, 2));
        act(edges, "promise 7", "1 for the least places of a fair part", x -> x.set(1, 2));
        act(edges, "promise 8", "This is an act.", x -> x.strengthen());
        act(edges, "promise 13", "This is an act.", x -> x.restore());
    }

    private static void act(Edges edges, String where, String words, ToIntFunction<PartedWebs> asked) {
        edges.add(where, words, "recorded once, with an empty history and with a full one", checks -> {
            PartedWebs x = emptied();
            String before = Webs.state(x);
            checks.holds("no error", asked.applyAsInt(x) >= 0);
            checks.due("count(9), was empty", 1, x.count(9));
            checks.holds("another state", !before.equals(Webs.state(x)));
            x.undo();
            checks.same("after undo()", before, Webs.state(x));
            PartedWebs full = Webs.laden(5, CHAIN);
            before = Webs.state(full);
            asked.applyAsInt(full);
            checks.due("count(9), was full", 4, full.count(9));
            full.undo();
            checks.same("after undo(), was full", before, Webs.state(full));
            full.undo();
            checks.due("count(7) after another undo()", 2, full.count(7));
        });
    }

    private static void noActs(Edges edges) {
        noAct(edges, "promise 9", "Types a character", x -> x.type('a'));
        noAct(edges, "promise 10", "Empties the text.", x -> x.clearText());
        noAct(edges, "promise 12", "Takes a snapshot", x -> x.keep());
    }

    private static void noAct(Edges edges, String where, String words, ToIntFunction<PartedWebs> asked) {
        edges.add(where, words, "not described as an act: nothing is recorded, the state stays", checks -> {
            PartedWebs empty = Webs.of(2, "");
            PartedWebs x = emptied();
            String before = Webs.state(x);
            asked.applyAsInt(x);
            checks.due("count(9), was empty", 0, x.count(9));
            checks.same("the state", before, Webs.state(x));
            PartedWebs full = Webs.laden(5, CHAIN);
            before = Webs.state(full);
            asked.applyAsInt(full);
            checks.same("the state, history was full", before, Webs.state(full));
            for (int fair = 2; fair <= 5; fair++) {
                full.undo();
                checks.due("count(7) after undo()", fair, full.count(7));
            }
            checks.due("count(9) of another object", 2, empty.count(9));
        });
    }

    private static void states(Edges edges) {
        edges.add("HISTORY", "A state is everything but the text, the history and the snapshot.",
            "both settings and all weights come back; the others stay", checks -> {
                PartedWebs x = Webs.of(10, "ab1,ij2");
                x.set(0, 9);
                x.set(1, 5);
                x.keep();
                Webs.type(x, "cd7");
                x.remove(9);
                x.undo();
                checks.same("after undo()", "10 start 9 fair 5: ab1 ij2", Webs.state(x));
                x.tie(8, 9, 3);
                x.undo();
                checks.due("weight(8, 9) after undo()", 2, x.weight(8, 9));
                checks.due("weight(9, 8) after undo()", 2, x.weight(9, 8));
                checks.due("count(10) after undo()", 3, x.count(10));
                x.remove(9);
                x.set(1, 2);
                x.type('7');
                x.restore();
                checks.same("after restore()", "10 start 9 fair 5: ab1 ij2", Webs.state(x));
                checks.due("count(10) after restore()", 4, x.count(10));
                checks.due("count(9) after restore()", 4, x.count(9));
                x.tie(0, 1, 99);
                x.undo();
                x.undo();
                x.undo();
                x.restore();
                checks.same("the snapshot after undo()", "10 start 9 fair 5: ab1 ij2", Webs.state(x));
            });
        edges.add("HISTORY", "and returns no error and not NONE", "acts that return 0, which is neither", checks -> {
            PartedWebs x = new PartedWebs();
            checks.due("tie(0, 1, 5)", 0, x.tie(0, 1, 5));
            checks.due("count(9)", 1, x.count(9));
            checks.due("set(0, 1)", 0, x.set(0, 1));
            checks.due("count(9)", 2, x.count(9));
            checks.due("tie(0, 1, 5) again", Edges.NONE, x.tie(0, 1, 5));
            checks.due("set(0, 1) again", Edges.NONE, x.set(0, 1));
            checks.due("set(0, 4)", Edges.BAD_VALUE, x.set(0, 4));
            checks.due("remove(4)", Edges.UNKNOWN, x.remove(4));
            checks.due("tieAll()", -100, x.tieAll());
            checks.due("restore()", Edges.NONE, x.restore());
            checks.due("count(9)", 2, x.count(9));
        });
    }

    private static void keep(Edges edges) {
        edges.add("HISTORY", "There is one snapshot, empty at first.",
            "none, one, and another in its place", checks -> {
            PartedWebs x = Webs.of(4, "ab1");
            checks.due("restore() at first", Edges.NONE, x.restore());
            x.keep();
            x.tie(0, 1, 2);
            x.keep();
            for (int weight = 3; weight <= 5; weight++) {
                x.tie(0, 1, weight);
                checks.due("restore()", 4, x.restore());
                checks.due("weight(0, 1) after restore()", 2, x.weight(0, 1));
            }
        });
        edges.add("promise 12", "in place of the one that was", "a greater web and a smaller one", checks -> {
            PartedWebs x = Webs.of(10, "aj9,ij8,ab1");
            x.set(1, 5);
            x.keep();
            Webs.resize(x, 2);
            x.set(1, 2);
            x.keep();
            Webs.resize(x, 10);
            x.restore();
            checks.same("after restore() of two places", "2 start 0 fair 2: ab1", Webs.state(x));
            x.grow();
            checks.same("a place without ties", "3 start 0 fair 2: ab1", Webs.state(x));
        });
        edges.add("promise 12", "Returns how many places there are.", "two and ten", checks -> {
            PartedWebs x = Webs.of(2, "");
            checks.due("keep() of two", 2, x.keep());
            Webs.resize(x, 10);
            checks.due("keep() of ten", 10, x.keep());
            checks.due("keep() of ten again", 10, x.keep());
        });
    }

    private static void restore(Edges edges) {
        edges.add("promise 13", "which stays.", "after restore(), and after acts on what was restored", checks -> {
            PartedWebs x = Webs.of(4, "ab1");
            x.keep();
            for (int weight = 2; weight <= 7; weight++) {
                x.tie(0, 1, weight);
                checks.due("restore()", 4, x.restore());
                checks.due("weight(0, 1)", 1, x.weight(0, 1));
            }
        });
        edges.add("promise 13", "Returns how many places there are then", "two of ten, and ten of two", checks -> {
            PartedWebs x = Webs.of(2, "");
            x.keep();
            Webs.resize(x, 10);
            checks.due("restore() of two", 2, x.restore());
            Webs.resize(x, 10);
            x.keep();
            Webs.resize(x, 2);
            checks.due("restore() of ten", 10, x.restore());
        });
        edges.add("promise 13", "Restores the state of the snapshot, which stays. This is an act.",
            "also if the state is the same", checks -> {
                PartedWebs x = new PartedWebs();
                x.keep();
                for (int states = 1; states <= 5; states++) {
                    checks.due("restore()", 4, x.restore());
                    checks.due("count(9)", Math.min(states, 4), x.count(9));
                }
            });
        edges.add("promise 13", "NONE if there is no snapshot.", "at first, and after undo()", checks -> {
            Edges.refused(checks, "restore() of a new object", Edges.NONE, PartedWebs::new, x -> x.restore());
            Edges.refused(checks, "restore() with a full history", Edges.NONE, () -> Webs.of(8, "ab1,gh5"),
                x -> x.restore());
            PartedWebs x = Webs.of(4, "ab1");
            x.undo();
            checks.due("restore() after undo()", Edges.NONE, x.restore());
        });
    }

    private static void errors(Edges edges) {
        edges.add("ERRORS", "NONE is no error; it is returned only if no error applies.",
            "calls for which both could be told", checks -> {
                PartedWebs x = new PartedWebs();
                checks.due("tie(0, 0, 0)", Edges.BAD_VALUE, x.tie(0, 0, 0));
                checks.due("tie(0, 4, 0)", Edges.UNKNOWN, x.tie(0, 4, 0));
                checks.due("swallowed(3, 9, true)", Edges.UNKNOWN, x.swallowed(3, 9, true));
                checks.due("leastOf(-1)", Edges.BAD_VALUE, x.leastOf(-1));
                checks.due("tight(-1)", Edges.BAD_VALUE, x.tight(-1));
                x.set(1, 5);
                checks.due("least(5)", Edges.BAD_VALUE, x.least(5));
                checks.due("least(3)", Edges.NONE, x.least(3));
            });
        edges.add("ERRORS", "Where several errors can apply, the order of the @return line is the order of the checks.",
            "each two that can apply", checks -> {
                PartedWebs x = Webs.of(2, "");
                checks.due("remove(2)", Edges.UNKNOWN, x.remove(2));
                checks.due("join(2, 2)", Edges.UNKNOWN, x.join(2, 2));
                checks.due("join(1, 1)", Edges.BAD_VALUE, x.join(1, 1));
                checks.due("tie(0, 2, 100)", Edges.UNKNOWN, x.tie(0, 2, 100));
                checks.due("weight(2, 2)", Edges.UNKNOWN, x.weight(2, 2));
                checks.due("place(2, 6)", Edges.UNKNOWN, x.place(2, 6));
                checks.due("phase(1, 6)", Edges.UNKNOWN, x.phase(1, 6));
                checks.due("swallowed(1, -1, true)", Edges.UNKNOWN, x.swallowed(1, -1, true));
                checks.due("between(0, 2, 2)", Edges.UNKNOWN, x.between(0, 2, 2));
                checks.due("wouldBe(0, 2, 100)", Edges.UNKNOWN, x.wouldBe(0, 2, 100));
            });
        edges.add("ERRORS", "A call that returns an error or NONE changes nothing.",
            "one of each kind, one after the other",
            checks -> Edges.refused(checks, "the last of many calls", Edges.NONE, () -> Webs.laden(2, "ab99"),
                EdgesOfHistory::manyRefused));
        constant(edges, "UNKNOWN", -1);
        constant(edges, "BAD_VALUE", -2);
        constant(edges, "FULL", -3);
        constant(edges, "NOT_POSSIBLE", -4);
        constant(edges, "NONE", -5);
    }

    private static void constant(Edges edges, String name, int want) {
        edges.add("ERRORS", "`" + name + " = " + want + "`", "the constant", checks -> {
            try {
                // looked up by its name, since javac would write the number into this class
                checks.due(name, want, PartedWebs.class.getField(name).getInt(null));
            } catch (ReflectiveOperationException missing) {
                checks.holds("a constant " + name, false);
            }
        });
    }

    private static int manyRefused(PartedWebs x) {
        x.remove(0);
        x.remove(2);
        x.join(0, 1);
        x.join(0, 0);
        x.join(0, 2);
        x.tie(0, 1, 99);
        x.tie(0, 1, 100);
        x.tie(1, 1, 5);
        x.tie(0, 2, 5);
        x.set(0, 0);
        x.set(0, 2);
        x.set(1, 1);
        x.set(1, 6);
        x.set(2, 1);
        x.strengthen();
        x.phase(1, 0);
        x.swallowed(0, 2, true);
        x.parting(3);
        x.wouldBe(0, 1, 100);
        x.leastOf(1);
        return x.tight(1);
    }

    private static void longRuns(Edges edges) {
        edges.add("What it is", "An object is used for at most 512 calls after it has been made",
            "the 512th call answers as the first one", checks -> {
                PartedWebs x = new PartedWebs();
                for (int place = 4; place < 10; place++) {
                    x.grow();
                }
                for (int call = 7; call <= 505; call++) {
                    checks.due("tie, call " + call, call == 7 ? 0 : 2 - call % 2, x.tie(8, 9, call % 2 + 1));
                }
                checks.due("keep(), call 506", 10, x.keep());
                checks.due("undo(), call 507", 3, x.undo());
                checks.due("weight(8, 9), call 508", 1, x.weight(8, 9));
                checks.due("restore(), call 509", 10, x.restore());
                checks.due("count(3), call 510", 255, x.count(3));
                checks.due("least(2), call 511", 1, x.least(2));
                checks.due("weight(8, 9), call 512", 2, x.weight(8, 9));
            });
    }
}
