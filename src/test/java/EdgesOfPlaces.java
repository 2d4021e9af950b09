/** Sentences of promises 1 to 5, 7 and 8, and of WEBS, that name a boundary case. */
final class EdgesOfPlaces {
    /** Each two of five places are tied, each pair by another weight. */
    private static final String FIVE = "ab12,ac13,ad14,ae15,bc23,bd24,be25,cd34,ce35,de45";

    private EdgesOfPlaces() {
    }

    static void addTo(Edges edges) {
        webs(edges);
        aNewObject(edges);
        grow(edges);
        remove(edges);
        removeOfTheStartingPlace(edges);
        refusedRemove(edges);
        join(edges);
        joinOfTheStartingPlace(edges);
        refusedJoin(edges);
        tie(edges);
        refusedTie(edges);
        set(edges);
        refusedSet(edges);
        strengthen(edges);
        strengthenOfTheFirst(edges);
    }

    private static void webs(Edges edges) {
        edges.add("WEBS", "A web has 2 to 10 places", "neither fewer nor more", checks -> {
            PartedWebs x = new PartedWebs();
            for (int i = 0; i < 12; i++) {
                x.remove(0);
            }
            checks.due("count(0) after many remove(0)", 2, x.count(0));
            for (int i = 0; i < 12; i++) {
                x.grow();
            }
            checks.due("count(0) after many grow()", 10, x.count(0));
            for (int i = 0; i < 12; i++) {
                x.join(0, 1);
            }
            checks.due("count(0) after many join(0, 1)", 2, x.count(0));
        });
        edges.add("WEBS", "numbered from 0; their letters are a to j.", "the first and the last number and letter",
            checks -> {
                PartedWebs x = Webs.of(10, "");
                Webs.type(x, "aj7");
                checks.due("tieAll()", 1, x.tieAll());
                checks.due("weight(0, 9)", 7, x.weight(0, 9));
                checks.due("weight(9, 0)", 7, x.weight(9, 0));
                checks.due("weight(-1, 9)", Edges.UNKNOWN, x.weight(-1, 9));
                checks.due("weight(0, 10)", Edges.UNKNOWN, x.weight(0, 10));
            });
        edges.add("WEBS", "Each two places are tied by a weight, 0 to 99", "the least and the greatest weight",
            checks -> {
                PartedWebs x = Webs.of(10, "");
                checks.due("tie(8, 9, 99)", 0, x.tie(8, 9, 99));
                checks.due("weight(9, 8)", 99, x.weight(9, 8));
                checks.due("tie(8, 9, 0)", 99, x.tie(8, 9, 0));
                checks.due("weight(9, 8)", 0, x.weight(9, 8));
            });
        edges.add("WEBS", "0 is no tie", "a weight of 0 joins nothing, one of 1 does", checks -> {
            PartedWebs x = Webs.of(2, "");
            checks.due("place(0, 1) by 0", 0, x.place(0, 1));
            checks.due("place(0, 2) by 0", 1, x.place(0, 2));
            checks.due("count(1) by 0", 0, x.count(1));
            checks.due("count(5) by 0", 2, x.count(5));
            x.tie(0, 1, 1);
            checks.due("place(0, 1) by 1", 2, x.place(0, 1));
            checks.due("place(0, 2) by 1", 3, x.place(0, 2));
            checks.due("count(1) by 1", 1, x.count(1));
            checks.due("count(5) by 1", 1, x.count(5));
        });
        edges.add("WEBS", "Sets of places are told as bits.", "the first and the last bit", checks -> {
            PartedWebs x = Webs.of(10, "");
            checks.due("place(0, 2)", 1, x.place(0, 2));
            checks.due("place(9, 2)", 512, x.place(9, 2));
            x.tie(0, 9, 1);
            checks.due("place(0, 1)", 512, x.place(0, 1));
            checks.due("place(9, 1)", 1, x.place(9, 1));
            checks.due("place(9, 2)", 513, x.place(9, 2));
        });
    }

    private static void aNewObject(Edges edges) {
        edges.add("promise 1", "Creates a web of four places", "no fewer, no more", checks -> {
            PartedWebs x = new PartedWebs();
            checks.due("count(0)", 4, x.count(0));
            checks.due("place(3, 2)", 8, x.place(3, 2));
            checks.due("place(4, 2)", Edges.UNKNOWN, x.place(4, 2));
        });
        edges.add("promise 1", "without ties.", "all weights are 0 at first", checks -> {
            PartedWebs x = new PartedWebs();
            for (int one = 0; one < 4; one++) {
                checks.due("place(" + one + ", 0)", 0, x.place(one, 0));
            }
            checks.due("count(1)", 0, x.count(1));
            checks.due("count(2)", 0, x.count(2));
            checks.due("count(5)", 4, x.count(5));
        });
        edges.add("promise 1", "Creates a web", "one that shares nothing with another object", checks -> {
            PartedWebs x = Webs.laden(10, "ab5,ij9");
            String before = Webs.all(x);
            PartedWebs y = new PartedWebs();
            checks.same("a new object", "4 start 0 fair 1: history 0 text 0", Webs.all(y));
            checks.due("restore() of it", Edges.NONE, y.restore());
            y.tie(2, 3, 4);
            y.type('z');
            checks.same("the other object", before, Webs.all(x));
        });
    }

    private static void grow(Edges edges) {
        edges.add("promise 2", "Adds a place without ties.", "at a number whose last place had ties", checks -> {
            PartedWebs removed = Webs.of(4, "ad9,bd8,cd7");
            removed.remove(3);
            noTiesOfTheNewPlace(checks, "remove(3)", removed);
            PartedWebs moved = Webs.of(4, "ad9,bd8,cd7");
            moved.remove(0);
            noTiesOfTheNewPlace(checks, "remove(0)", moved);
            PartedWebs joined = Webs.of(4, "ad9,bd8,cd7");
            joined.join(1, 2);
            noTiesOfTheNewPlace(checks, "join(1, 2)", joined);
            PartedWebs undone = Webs.of(9, "");
            undone.grow();
            undone.tie(0, 9, 99);
            undone.undo();
            undone.undo();
            noTiesOfTheNewPlace(checks, "undo() of grow()", undone);
            PartedWebs restored = new PartedWebs();
            restored.keep();
            restored.grow();
            restored.tie(0, 4, 9);
            restored.restore();
            noTiesOfTheNewPlace(checks, "restore()", restored);
        });
        edges.add("promise 2", "Returns its number", "of the third to the tenth place", checks -> {
            PartedWebs x = Webs.of(2, "");
            for (int place = 2; place < 10; place++) {
                checks.due("grow()", place, x.grow());
            }
        });
        edges.add("promise 2", "FULL if there are 10.", "nine and ten places", checks -> {
            PartedWebs x = Webs.of(9, "ab7");
            checks.due("grow() of nine places", 9, x.grow());
            checks.due("grow() of ten places", Edges.FULL, x.grow());
            x.remove(0);
            checks.due("grow() when there is room again", 9, x.grow());
            Edges.refused(checks, "grow() of ten places", Edges.FULL, () -> Webs.laden(10, "ab7,ij9"), y -> y.grow());
        });
    }

    private static void noTiesOfTheNewPlace(Checks checks, String after, PartedWebs x) {
        int weights = x.count(2);
        int place = x.grow();
        checks.due("the weights of the place that has grown after " + after, 0, x.place(place, 0));
        checks.due("all weights after it", weights, x.count(2));
    }

    private static void remove(Edges edges) {
        edges.add("promise 3", "those with higher numbers get numbers that are 1 less",
            "the first place, the last one, and one between", checks -> {
                String[] left = {"bc12,bd13,be14,cd23,ce24,de34", "ac12,ad13,ae14,cd23,ce24,de34",
                    "ab12,ad13,ae14,bd23,be24,de34", "ab12,ac13,ae14,bc23,be24,ce34", "ab12,ac13,ad14,bc23,bd24,cd34"};
                for (int place = 0; place < 5; place++) {
                    PartedWebs x = Webs.of(5, left[place] + "," + tiesOf(place));
                    x.remove(place);
                    checks.same("after remove(" + place + ")", "4 start 0 fair 1: ab12 ac13 ad14 bc23 bd24 cd34",
                        Webs.state(x));
                }
                PartedWebs x = Webs.of(10, "ai1,aj2,bj3,ij4,ab5");
                x.remove(0);
                checks.same("ten places after remove(0)", "9 start 0 fair 1: ai3 hi4", Webs.state(x));
                x = Webs.of(10, "ai1,aj2,bj3,ij4,ab5");
                x.remove(9);
                checks.same("ten places after remove(9)", "9 start 0 fair 1: ab5 ai1", Webs.state(x));
            });
        edges.add("promise 3", "Returns how many places there are then", "ten places and three", checks -> {
            checks.due("remove(9) of ten", 9, Webs.of(10, "").remove(9));
            checks.due("remove(0) of three", 2, Webs.of(3, "").remove(0));
            checks.due("remove(2) of three", 2, Webs.of(3, "").remove(2));
        });
    }

    /** Ties of a place to all others of five, which go when it is removed. */
    private static String tiesOf(int place) {
        StringBuilder ties = new StringBuilder();
        for (int other = 0; other < 5; other++) {
            if (other != place) {
                ties.append(ties.length() == 0 ? "" : ",").append((char) ('a' + Math.min(place, other)))
                    .append((char) ('a' + Math.max(place, other))).append(90 + other);
            }
        }
        return ties.toString();
    }

    private static void startAfterRemove(Checks checks, int places, int start, int removed, int then) {
        PartedWebs x = Webs.of(places, "");
        x.set(0, start);
        x.remove(removed);
        checks.due("from " + start + " of " + places + ", remove(" + removed + "), count(6)", then, x.count(6));
    }

    private static void removeOfTheStartingPlace(Edges edges) {
        edges.add("promise 3", "so does the starting place", "the next higher and the next lower place, and the ends",
            checks -> {
                startAfterRemove(checks, 10, 9, 8, 8);
                startAfterRemove(checks, 10, 9, 0, 8);
                startAfterRemove(checks, 10, 1, 0, 0);
                startAfterRemove(checks, 10, 5, 4, 4);
                startAfterRemove(checks, 10, 5, 6, 5);
                startAfterRemove(checks, 10, 8, 9, 8);
                startAfterRemove(checks, 10, 0, 1, 0);
                startAfterRemove(checks, 3, 2, 1, 1);
            });
        edges.add("promise 3", "if it is the one that is removed, it becomes the place 0",
            "the first place, the last one, and one between", checks -> {
                startAfterRemove(checks, 10, 0, 0, 0);
                startAfterRemove(checks, 10, 5, 5, 0);
                startAfterRemove(checks, 10, 9, 9, 0);
                startAfterRemove(checks, 3, 2, 2, 0);
            });
    }

    private static void refusedRemove(Edges edges) {
        edges.add("promise 3", "UNKNOWN", "no such place, however far out", checks -> {
            for (int places : new int[] {3, 10}) {
                for (int place : Edges.noPlaces(places)) {
                    Edges.refused(checks, "remove(" + place + ") of " + places, Edges.UNKNOWN,
                        () -> Webs.laden(places, "ab7"), x -> x.remove(place));
                }
            }
        });
        edges.add("promise 3", "NOT_POSSIBLE if there are two.", "three and two places", checks -> {
            PartedWebs x = Webs.of(3, "ab7");
            checks.due("remove(2) of three", 2, x.remove(2));
            checks.due("remove(1) of two", Edges.NOT_POSSIBLE, x.remove(1));
            for (int place = 0; place < 2; place++) {
                int removed = place;
                Edges.refused(checks, "remove(" + place + ") of two", Edges.NOT_POSSIBLE, () -> Webs.laden(2, "ab7"),
                    y -> y.remove(removed));
            }
        });
        edges.add("promise 3", "UNKNOWN; NOT_POSSIBLE if there are two.", "the order, when both apply", checks -> {
            checks.due("remove(2) of two", Edges.UNKNOWN, Webs.of(2, "").remove(2));
            checks.due("remove(-1) of two", Edges.UNKNOWN, Webs.of(2, "").remove(-1));
        });
    }

    private static void join(Edges edges) {
        edges.add("promise 4", "Joins two places in the lower one", "whichever is told first", checks -> {
            PartedWebs x = Webs.of(5, FIVE);
            x.join(1, 3);
            checks.same("after join(1, 3)", "4 start 0 fair 1: ab26 ac13 ad15 bc57 bd70 cd35", Webs.state(x));
            PartedWebs y = Webs.of(5, FIVE);
            y.join(3, 1);
            checks.same("after join(3, 1)", "4 start 0 fair 1: ab26 ac13 ad15 bc57 bd70 cd35", Webs.state(y));
        });
        edges.add("promise 4", "its weights to others become the sums of both, but at most 99",
            "sums of 0, 98, 99, 100 and 198", checks -> {
                PartedWebs x = Webs.of(7, "ad49,bd49,ae49,be50,af50,bf50,ag99,bg99");
                x.join(0, 1);
                checks.due("0 and 0", 0, x.weight(0, 1));
                checks.due("49 and 49", 98, x.weight(0, 2));
                checks.due("49 and 50", 99, x.weight(0, 3));
                checks.due("50 and 50", 99, x.weight(0, 4));
                checks.due("99 and 99", 99, x.weight(0, 5));
                checks.due("and the other way round", 99, x.weight(5, 0));
            });
        edges.add("promise 4", "its weights to others", "the tie of both goes", checks -> {
            PartedWebs x = Webs.of(3, "ab99,ac1,bc2");
            x.join(0, 1);
            checks.same("after join(0, 1)", "2 start 0 fair 1: ab3", Webs.state(x));
            checks.due("place(0, 1)", 2, x.place(0, 1));
            checks.due("place(0, 0)", 3, x.place(0, 0));
        });
        edges.add("promise 4", "the higher one is removed then.", "the last two places, and the first two", checks -> {
            PartedWebs x = Webs.of(5, FIVE);
            x.join(4, 3);
            checks.same("after join(4, 3)", "4 start 0 fair 1: ab12 ac13 ad29 bc23 bd49 cd69", Webs.state(x));
            PartedWebs y = Webs.of(5, FIVE);
            y.join(0, 1);
            checks.same("after join(0, 1)", "4 start 0 fair 1: ab36 ac38 ad40 bc34 bd35 cd45", Webs.state(y));
        });
        edges.add("promise 4", "Returns how many places there are then", "ten places and three", checks -> {
            checks.due("join(8, 9) of ten", 9, Webs.of(10, "").join(8, 9));
            checks.due("join(2, 0) of three", 2, Webs.of(3, "").join(2, 0));
        });
    }

    private static void startAfterJoin(Checks checks, int start, int one, int other, int then) {
        PartedWebs x = Webs.of(10, "");
        x.set(0, start);
        x.join(one, other);
        checks.due("from " + start + ", join(" + one + ", " + other + "), count(6)", then, x.count(6));
    }

    private static void joinOfTheStartingPlace(Edges edges) {
        edges.add("promise 4", "(If the higher one is the starting place, the lower one becomes it.)",
            "the ends, and either order", checks -> {
                startAfterJoin(checks, 9, 3, 9, 3);
                startAfterJoin(checks, 9, 9, 8, 8);
                startAfterJoin(checks, 5, 5, 2, 2);
                startAfterJoin(checks, 1, 0, 1, 0);
            });
        edges.add("promise 4", "the higher one is removed then.", "the starting place beside it, as promise 3 asks",
            checks -> {
                startAfterJoin(checks, 9, 7, 8, 8);
                startAfterJoin(checks, 9, 0, 1, 8);
                startAfterJoin(checks, 5, 0, 1, 4);
                startAfterJoin(checks, 6, 5, 2, 5);
                startAfterJoin(checks, 6, 8, 7, 6);
                startAfterJoin(checks, 3, 3, 9, 3);
                startAfterJoin(checks, 4, 3, 5, 4);
                startAfterJoin(checks, 0, 8, 9, 0);
            });
    }

    private static void refusedJoin(Edges edges) {
        edges.add("promise 4", "UNKNOWN (one or other)", "no such place, however far out, on either side", checks -> {
            for (int place : Edges.noPlaces(4)) {
                Edges.refused(checks, "join(0, " + place + ")", Edges.UNKNOWN, () -> Webs.laden(4, "ab7"),
                    x -> x.join(0, place));
                Edges.refused(checks, "join(" + place + ", 3)", Edges.UNKNOWN, () -> Webs.laden(4, "ab7"),
                    x -> x.join(place, 3));
            }
        });
        edges.add("promise 4", "BAD_VALUE if both are the same", "each place", checks -> {
            for (int place = 0; place < 4; place++) {
                int same = place;
                Edges.refused(checks, "join(" + place + ", " + place + ")", Edges.BAD_VALUE,
                    () -> Webs.laden(4, "ab7"), x -> x.join(same, same));
            }
        });
        edges.add("promise 4", "NOT_POSSIBLE if there are two.", "three and two places", checks -> {
            PartedWebs x = Webs.of(3, "ab7");
            checks.due("join(1, 2) of three", 2, x.join(1, 2));
            checks.due("join(0, 1) of two", Edges.NOT_POSSIBLE, x.join(0, 1));
            Edges.refused(checks, "join(0, 1) of two", Edges.NOT_POSSIBLE, () -> Webs.laden(2, "ab7"),
                y -> y.join(0, 1));
            Edges.refused(checks, "join(1, 0) of two", Edges.NOT_POSSIBLE, () -> Webs.laden(2, "ab7"),
                y -> y.join(1, 0));
        });
        edges.add("promise 4", "UNKNOWN (one or other); BAD_VALUE if both are the same; NOT_POSSIBLE if there are two.",
            "the order, when several apply", checks -> {
                checks.due("join(4, 4) of four", Edges.UNKNOWN, new PartedWebs().join(4, 4));
                checks.due("join(-1, -1) of four", Edges.UNKNOWN, new PartedWebs().join(-1, -1));
                checks.due("join(2, 2) of two", Edges.UNKNOWN, Webs.of(2, "").join(2, 2));
                checks.due("join(0, 2) of two", Edges.UNKNOWN, Webs.of(2, "").join(0, 2));
                checks.due("join(1, 1) of two", Edges.BAD_VALUE, Webs.of(2, "").join(1, 1));
            });
    }

    private static void tie(Edges edges) {
        edges.add("promise 5", "0 to 99", "each weight, the ends too", checks -> {
            PartedWebs x = new PartedWebs();
            for (int weight = 99; weight >= 0; weight--) {
                checks.due("tie(0, 3, " + weight + ")", weight == 99 ? 0 : weight + 1, x.tie(0, 3, weight));
                checks.due("weight(3, 0)", weight, x.weight(3, 0));
            }
        });
        edges.add("promise 5", "Returns the previous weight", "0 and 99, in either order of the places", checks -> {
            PartedWebs x = new PartedWebs();
            checks.due("tie(0, 1, 99)", 0, x.tie(0, 1, 99));
            checks.due("tie(1, 0, 0)", 99, x.tie(1, 0, 0));
            checks.due("tie(0, 1, 1)", 0, x.tie(0, 1, 1));
            checks.due("tie(1, 0, 2)", 1, x.tie(1, 0, 2));
        });
        edges.add("promise 5", "NONE if it is so already.", "0, 99, in either order of the places", checks -> {
            Edges.refused(checks, "tie(0, 2, 0)", Edges.NONE, () -> Webs.laden(4, "ab99"), x -> x.tie(0, 2, 0));
            Edges.refused(checks, "tie(0, 1, 99)", Edges.NONE, () -> Webs.laden(4, "ab99"), x -> x.tie(0, 1, 99));
            Edges.refused(checks, "tie(1, 0, 99)", Edges.NONE, () -> Webs.laden(4, "ab99"), x -> x.tie(1, 0, 99));
        });
    }

    private static void refusedTie(Edges edges) {
        edges.add("promise 5", "UNKNOWN (one or other)", "no such place, however far out, on either side", checks -> {
            for (int place : Edges.noPlaces(4)) {
                Edges.refused(checks, "tie(0, " + place + ", 5)", Edges.UNKNOWN, () -> Webs.laden(4, "ab7"),
                    x -> x.tie(0, place, 5));
                Edges.refused(checks, "tie(" + place + ", 3, 5)", Edges.UNKNOWN, () -> Webs.laden(4, "ab7"),
                    x -> x.tie(place, 3, 5));
            }
        });
        edges.add("promise 5", "BAD_VALUE", "a weight below 0 or above 99", checks -> {
            for (int weight : Edges.badWeights()) {
                Edges.refused(checks, "tie(0, 1, " + weight + ")", Edges.BAD_VALUE, () -> Webs.laden(4, "ab7"),
                    x -> x.tie(0, 1, weight));
            }
        });
        edges.add("promise 5", "(also if both are the same)", "each place, whatever the weight", checks -> {
            for (int place = 0; place < 4; place++) {
                int same = place;
                for (int weight : new int[] {0, 1, 99, 100, -1}) {
                    Edges.refused(checks, "tie(" + place + ", " + place + ", " + weight + ")", Edges.BAD_VALUE,
                        () -> Webs.laden(4, "ab7"), x -> x.tie(same, same, weight));
                }
            }
        });
        edges.add("promise 5", "UNKNOWN (one or other); BAD_VALUE (also if both are the same); NONE if it is so already.",
            "the order, when several apply", checks -> {
                checks.due("tie(0, 4, 100)", Edges.UNKNOWN, new PartedWebs().tie(0, 4, 100));
                checks.due("tie(-1, 0, -1)", Edges.UNKNOWN, new PartedWebs().tie(-1, 0, -1));
                checks.due("tie(4, 4, 5)", Edges.UNKNOWN, new PartedWebs().tie(4, 4, 5));
                checks.due("tie(0, 4, 0)", Edges.UNKNOWN, new PartedWebs().tie(0, 4, 0));
                checks.due("tie(2, 2, 0)", Edges.BAD_VALUE, new PartedWebs().tie(2, 2, 0));
            });
    }

    private static void set(Edges edges) {
        edges.add("promise 7", "0 for the starting place", "the first and the last place", checks -> {
            PartedWebs x = Webs.of(10, "");
            checks.due("set(0, 9)", 0, x.set(0, 9));
            checks.due("count(6)", 9, x.count(6));
            checks.due("set(0, 0)", 9, x.set(0, 0));
            checks.due("count(6)", 0, x.count(6));
            checks.due("count(7)", 1, x.count(7));
        });
        edges.add("promise 7", "1 for the least places of a fair part (1 to 5)", "each of them", checks -> {
            PartedWebs x = new PartedWebs();
            for (int value = 2; value <= 5; value++) {
                checks.due("set(1, " + value + ")", value - 1, x.set(1, value));
                checks.due("count(7)", value, x.count(7));
            }
            checks.due("set(1, 1)", 5, x.set(1, 1));
            checks.due("count(7)", 1, x.count(7));
            checks.due("count(6)", 0, x.count(6));
        });
        edges.add("promise 7", "Returns the previous one", "of each setting, 0 too", checks -> {
            PartedWebs x = new PartedWebs();
            checks.due("set(0, 3)", 0, x.set(0, 3));
            checks.due("set(1, 5)", 1, x.set(1, 5));
            checks.due("set(0, 1)", 3, x.set(0, 1));
            checks.due("set(1, 2)", 5, x.set(1, 2));
        });
        edges.add("promise 7", "NONE if it is so already.", "each setting", checks -> {
            Edges.refused(checks, "set(0, 0)", Edges.NONE, () -> Webs.laden(4, "ab7"), x -> x.set(0, 0));
            Edges.refused(checks, "set(1, 1)", Edges.NONE, () -> Webs.laden(4, "ab7"), x -> x.set(1, 1));
            PartedWebs x = new PartedWebs();
            x.set(0, 3);
            x.set(1, 5);
            checks.due("set(0, 3)", Edges.NONE, x.set(0, 3));
            checks.due("set(1, 5)", Edges.NONE, x.set(1, 5));
            checks.due("count(9)", 2, x.count(9));
        });
    }

    private static void refusedSet(Edges edges) {
        edges.add("promise 7", "BAD_VALUE (which", "neither 0 nor 1", checks -> {
            for (int which : Edges.outside(1)) {
                for (int value : new int[] {0, 1, 2}) {
                    Edges.refused(checks, "set(" + which + ", " + value + ")", Edges.BAD_VALUE,
                        () -> Webs.laden(4, "ab7"), x -> x.set(which, value));
                }
            }
        });
        edges.add("promise 7", "or value)", "a starting place that is not there", checks -> {
            for (int value : Edges.noPlaces(4)) {
                Edges.refused(checks, "set(0, " + value + ")", Edges.BAD_VALUE, () -> Webs.laden(4, "ab7"),
                    x -> x.set(0, value));
            }
            PartedWebs x = Webs.of(10, "");
            checks.due("set(0, 10) of ten", Edges.BAD_VALUE, x.set(0, 10));
            x.remove(9);
            checks.due("set(0, 9) of nine", Edges.BAD_VALUE, x.set(0, 9));
            checks.due("set(0, 8) of nine", 0, x.set(0, 8));
        });
        edges.add("promise 7", "(1 to 5)", "fewer than 1, more than 5", checks -> {
            for (int value : Edges.outside(5)) {
                Edges.refused(checks, "set(1, " + value + ")", Edges.BAD_VALUE, () -> Webs.laden(4, "ab7"),
                    x -> x.set(1, value));
            }
            Edges.refused(checks, "set(1, 0)", Edges.BAD_VALUE, () -> Webs.laden(4, "ab7"), x -> x.set(1, 0));
        });
    }

    private static void strengthen(Edges edges) {
        edges.add("promise 8", "that has a weight of 1 to 98 becomes 1 more", "0, 1, 98 and 99", checks -> {
            PartedWebs x = Webs.of(3, "ac1");
            x.tie(0, 1, 99);
            checks.due("strengthen() of 1", 2, x.strengthen());
            checks.due("weight(0, 2)", 2, x.weight(0, 2));
            x.tie(0, 2, 98);
            checks.due("strengthen() of 98", 2, x.strengthen());
            checks.due("weight(0, 2)", 99, x.weight(0, 2));
            // the least parting is {c}, tied to a by 99 and to b by 0
            checks.due("least(0)", 4, x.least(0));
            checks.due("strengthen() of 99 and 0", Edges.NOT_POSSIBLE, x.strengthen());
        });
        edges.add("promise 8", "Returns 10 times the lower place plus the other one",
            "the first pair and the last one", checks -> {
                checks.due("strengthen() of a and b", 1, Webs.of(2, "ab5").strengthen());
                PartedWebs x = Webs.of(10, "ab9,bc9,cd9,de9,ef9,fg9,gh9,hi9,ij8");
                checks.due("strengthen() of i and j", 89, x.strengthen());
                x = Webs.of(10, "ab9,bc9,cd9,de9,ef9,fg9,gh9,hi9,aj8");
                checks.due("strengthen() of a and j", 9, x.strengthen());
            });
        edges.add("promise 8", "NOT_POSSIBLE if it has no such tie.", "no tie at all, and ties of 99 alone", checks -> {
            Edges.refused(checks, "strengthen() of 0", Edges.NOT_POSSIBLE, () -> Webs.laden(2, ""),
                x -> x.strengthen());
            Edges.refused(checks, "strengthen() of 99", Edges.NOT_POSSIBLE, () -> Webs.laden(2, "ab99"),
                x -> x.strengthen());
            // the tie of a and b is not one of the least parting's
            Edges.refused(checks, "strengthen() of two parts", Edges.NOT_POSSIBLE, () -> Webs.laden(4, "ab5,cd5"),
                x -> x.strengthen());
        });
    }

    private static void strengthenOfTheFirst(Edges edges) {
        edges.add("promise 8", "the pair of places with the lowest numbers (by the lower one, then by the other one)",
            "a lower one that is lower, and one that is the same", checks -> {
                // the least parting is {c, d}: ad ahead of bc, though c is below d
                PartedWebs x = Webs.of(4, "ab90,cd90,ad5,bc5");
                checks.due("least(0)", 12, x.least(0));
                checks.due("strengthen() of ad and bc", 3, x.strengthen());
                x = Webs.of(4, "ab90,cd90,ad5,ac6");
                checks.due("least(0)", 12, x.least(0));
                checks.due("strengthen() of ac and ad", 2, x.strengthen());
            });
        edges.add("promise 8", "of its ties", "a pair with lower numbers on one side of the parting", checks -> {
            PartedWebs x = Webs.of(4, "ab5,ac5,bc5,cd1");
            checks.due("least(0)", 8, x.least(0));
            checks.due("strengthen()", 23, x.strengthen());
            checks.same("after it", "4 start 0 fair 1: ab5 ac5 bc5 cd2", Webs.state(x));
        });
        edges.add("promise 8", "the least parting (by phases)", "of several least ones, that of the first phase",
            checks -> {
                // {b} comes first by its set, {d} by the phases
                PartedWebs x = Webs.of(4, "ab2,bc2,cd2,ad2");
                checks.due("leastOf(0)", 2, x.leastOf(0));
                checks.due("strengthen()", 3, x.strengthen());
            });
    }
}
