/** Sentences of promises 14, 15 and 19 to 24, and of LEAST PARTINGS, that name a boundary case. */
final class EdgesOfPartings {
    private EdgesOfPartings() {
    }

    static void addTo(Edges edges) {
        setsOfPartings(edges);
        fair(edges);
        leastPartings(edges);
        weight(edges);
        place(edges);
        placeInThePhaseZero(edges);
        refusedPlace(edges);
        leastOf(edges);
        between(edges);
        refusedBetween(edges);
        parting(edges);
        wouldBe(edges);
        leastWeightOfWouldBe(edges);
        refusedWouldBe(edges);
        tight(edges);
        count(edges);
        countOfTheOthers(edges);
    }

    private static PartedWebs fairOf(int places, int fair, String ties) {
        PartedWebs x = Webs.of(places, ties);
        x.set(1, fair);
        return x;
    }

    private static void setsOfPartings(Edges edges) {
        notAParting(edges, "not empty", 0);
        notAParting(edges, "is not all places", 3, 15, 1023);
        notAParting(edges, "does not have the place 0", 1, 3, 5, 7, 13, 513);
        edges.add("WEBS", "that of all ties between a place in it and one that is not, together.",
            "no tie, one tie, and the heaviest parting there is", checks -> {
                StringBuilder ties = new StringBuilder();
                for (char one = 'a'; one <= 'e'; one++) {
                    for (char other = 'f'; other <= 'j'; other++) {
                        ties.append(ties.length() == 0 ? "" : ",").append(one).append(other).append(99);
                    }
                }
                PartedWebs x = Webs.of(10, ties.toString());
                checks.due("parting(992)", 2475, x.parting(992));
                checks.due("parting(512)", 495, x.parting(512));
                x = Webs.of(10, "aj7,ij99");
                checks.due("parting(254)", 0, x.parting(254));
                checks.due("parting(1022)", 7, x.parting(1022));
            });
        edges.add("WEBS", "Partings are ordered by their sets as numbers.", "the first and the last one", checks -> {
            PartedWebs x = Webs.of(10, "");
            checks.due("leastOf(0)", 2, x.leastOf(0));
            checks.due("leastOf(1)", 4, x.leastOf(1));
            checks.due("leastOf(2)", 6, x.leastOf(2));
            checks.due("leastOf(510)", 1022, x.leastOf(510));
        });
    }

    private static void notAParting(Edges edges, String words, int... sets) {
        edges.add("WEBS", words, "sets that are no partings", checks -> {
            for (int places : new int[] {2, 4, 10}) {
                for (int set : sets) {
                    checks.due("parting(" + set + ") of " + places, Edges.BAD_VALUE, Webs.of(places, "").parting(set));
                }
            }
        });
    }

    private static void fair(Edges edges) {
        edges.add("LEAST PARTINGS", "A parting is fair if both its parts have at least so many places as the setting tells",
            "each setting in each web", checks -> {
                int[][] due = {{1, 0, 0, 0, 0}, {3, 0, 0, 0, 0}, {7, 3, 0, 0, 0}, {15, 10, 0, 0, 0},
                    {31, 25, 10, 0, 0}, {63, 56, 35, 0, 0}, {127, 119, 91, 35, 0}, {255, 246, 210, 126, 0},
                    {511, 501, 456, 336, 126}};
                for (int places = 2; places <= 10; places++) {
                    for (int fair = 1; fair <= 5; fair++) {
                        checks.due("count(8) of " + places + " places with " + fair, due[places - 2][fair - 1],
                            fairOf(places, fair, "").count(8));
                    }
                }
            });
        edges.add("LEAST PARTINGS", "both its parts", "the part with the place 0, and the other one", checks -> {
            // b by itself is too small by 1; {b, c, d} leaves a by itself
            PartedWebs x = fairOf(4, 2, "ac9,cd9,ad9,ab1");
            checks.due("least(3), not {b}", 12, x.least(3));
            checks.due("least(4), not {b}", 18, x.least(4));
            x = fairOf(4, 2, "bc9,cd9,bd9,ab1");
            checks.due("least(3), not {b, c, d}", 12, x.least(3));
            checks.due("least(4), not {b, c, d}", 18, x.least(4));
        });
        edges.add("LEAST PARTINGS", "(1 to 5; 1 at first)", "the setting at first", checks -> {
            PartedWebs x = new PartedWebs();
            checks.due("count(7)", 1, x.count(7));
            checks.due("count(8)", 7, x.count(8));
            checks.due("least(3)", 2, x.least(3));
        });
        edges.add("LEAST PARTINGS", "the one with the least weight among those that are fair, of several the first one.",
            "equal ones, and a lighter one that is not fair", checks -> {
                PartedWebs x = fairOf(4, 2, "");
                checks.due("least(3) without ties", 6, x.least(3));
                x = fairOf(4, 2, "ab2,bc2,cd2,ad2");
                checks.due("least(3) of a ring", 6, x.least(3));
                checks.due("least(4) of a ring", 4, x.least(4));
                x = fairOf(4, 2, "ab1,ac5,cd5,ad5");
                checks.due("least(3) with a light one", 12, x.least(3));
                checks.due("least(4) with a light one", 10, x.least(4));
                x.set(1, 1);
                checks.due("least(3) with 1", 2, x.least(3));
                checks.due("least(4) with 1", 1, x.least(4));
            });
    }

    private static void leastPartings(Edges edges) {
        edges.add("LEAST PARTINGS", "All least partings are those (fair or not) with the least weight of all.",
            "none of them is fair", checks -> {
                PartedWebs x = fairOf(4, 5, "ab1,bc1,cd9,ad9,bd9,ac9");
                checks.due("count(8)", 0, x.count(8));
                checks.due("count(3)", 1, x.count(3));
                checks.due("leastOf(0)", 2, x.leastOf(0));
            });
        edges.add("LEAST PARTINGS", "A pair of places is tight if it has a weight above 0",
            "parted by all least partings, with 0 and with 1", checks -> {
                PartedWebs x = Webs.of(3, "ab9,bc1");
                // {c} is the one least parting: it parts ac too, which has no weight
                checks.due("count(4)", 1, x.count(4));
                checks.due("tight(0)", 12, x.tight(0));
                checks.due("tight(1)", Edges.NONE, x.tight(1));
                checks.due("count(4) without ties", 0, Webs.of(2, "").count(4));
                checks.due("count(4) with a tie of 1", 1, Webs.of(2, "ab1").count(4));
            });
        edges.add("LEAST PARTINGS", "and each of all least partings parts it.", "all but one of them", checks -> {
            // {c}, {d} and {c, d}: each pair is left whole by one of them
            PartedWebs x = Webs.of(4, "ab9,bc2,cd1,bd2");
            checks.due("count(3)", 2, x.count(3));
            checks.due("leastOf(0)", 4, x.leastOf(0));
            checks.due("leastOf(1)", 8, x.leastOf(1));
            checks.due("count(4)", 1, x.count(4));
            checks.due("tight(0), cd, which both part", 23, x.tight(0));
            x.tie(1, 3, 3);
            checks.due("count(4) with one least parting", 2, x.count(4));
        });
    }

    private static void weight(Edges edges) {
        edges.add("promise 14", "Returns the weight",
            "0 and 99, the first pair and the last one, either way", checks -> {
            PartedWebs x = Webs.of(10, "ij99,ab1");
            checks.due("weight(0, 1)", 1, x.weight(0, 1));
            checks.due("weight(1, 0)", 1, x.weight(1, 0));
            checks.due("weight(8, 9)", 99, x.weight(8, 9));
            checks.due("weight(9, 8)", 99, x.weight(9, 8));
            checks.due("weight(0, 9)", 0, x.weight(0, 9));
        });
        edges.add("promise 14", "UNKNOWN (one or other)", "no such place, however far out, on either side", checks -> {
            for (int place : Edges.noPlaces(4)) {
                Edges.refused(checks, "weight(0, " + place + ")", Edges.UNKNOWN, () -> Webs.laden(4, "ab7"),
                    x -> x.weight(0, place));
                Edges.refused(checks, "weight(" + place + ", 3)", Edges.UNKNOWN, () -> Webs.laden(4, "ab7"),
                    x -> x.weight(place, 3));
            }
        });
        edges.add("promise 14", "BAD_VALUE if both are the same.", "each place", checks -> {
            for (int place = 0; place < 4; place++) {
                int same = place;
                Edges.refused(checks, "weight(" + place + ", " + place + ")", Edges.BAD_VALUE,
                    () -> Webs.laden(4, "ab7"), x -> x.weight(same, same));
            }
        });
        edges.add("promise 14", "UNKNOWN (one or other); BAD_VALUE if both are the same.", "the order, when both apply",
            checks -> {
                checks.due("weight(4, 4)", Edges.UNKNOWN, new PartedWebs().weight(4, 4));
                checks.due("weight(-1, -1)", Edges.UNKNOWN, new PartedWebs().weight(-1, -1));
            });
    }

    private static void place(Edges edges) {
        edges.add("promise 15", "0 for its weights together", "none, and nine of 99", checks -> {
            PartedWebs x = Webs.of(10, "aj99,bj99,cj99,dj99,ej99,fj99,gj99,hj99,ij99");
            checks.due("place(9, 0)", 891, x.place(9, 0));
            checks.due("place(0, 0)", 99, x.place(0, 0));
            checks.due("place(3, 0) without ties", 0, new PartedWebs().place(3, 0));
        });
        edges.add("promise 15", "1 for the places to which it is tied (a set)", "none, and all others", checks -> {
            PartedWebs x = Webs.of(10, "aj1,bj1,cj1,dj1,ej1,fj1,gj1,hj1,ij1");
            checks.due("place(9, 1), without itself", 511, x.place(9, 1));
            checks.due("place(0, 1)", 512, x.place(0, 1));
            checks.due("place(3, 1) without ties", 0, new PartedWebs().place(3, 1));
        });
        edges.add("promise 15", "2 for the places to which it is tied or can be reached by ties, with itself (a set)",
            "itself alone, and the longest way", checks -> {
                checks.due("place(3, 2) without ties", 8, new PartedWebs().place(3, 2));
                PartedWebs x = Webs.of(10, "aj1,bj1,bi1,ci1,ch1,dh1,dg1,eg1,ef1");
                checks.due("place(0, 2) of a long way", 1023, x.place(0, 2));
                checks.due("place(5, 2) of a long way", 1023, x.place(5, 2));
                x.tie(0, 9, 0);
                checks.due("place(0, 2) of a way without its first tie", 1, x.place(0, 2));
                checks.due("place(5, 2) of a way without its first tie", 1022, x.place(5, 2));
            });
        edges.add("promise 15", "3 for its tight pairs (how many)", "none, and nine", checks -> {
            // {j} is the one least parting, and j is tied to all others
            PartedWebs x = Webs.of(10, "aj1,bj1,cj1,dj1,ej1,fj1,gj1,hj1,ij1,"
                + "ab90,bc90,cd90,de90,ef90,fg90,gh90,hi90,ai90");
            checks.due("place(9, 3)", 9, x.place(9, 3));
            checks.due("place(0, 3)", 1, x.place(0, 3));
            checks.due("place(8, 3)", 1, x.place(8, 3));
            checks.due("place(3, 3) without ties", 0, new PartedWebs().place(3, 3));
        });
    }

    private static void placeInThePhaseZero(Edges edges) {
        edges.add("promise 15", "4 for the rank at which it is swallowed in the phase 0 (0 for the starting place)",
            "the starting place, and the last rank", checks -> {
                PartedWebs x = Webs.of(10, "ai5,ij7");
                x.set(0, 9);
                checks.due("place(9, 4)", 0, x.place(9, 4));
                checks.due("place(8, 4)", 1, x.place(8, 4));
                checks.due("place(0, 4)", 2, x.place(0, 4));
                checks.due("place(1, 4)", 3, x.place(1, 4));
                checks.due("place(7, 4)", 9, x.place(7, 4));
            });
        edges.add("promise 15", "5 for its nearness then (0 for the starting place)", "the starting place, and no tie",
            checks -> {
                PartedWebs x = Webs.of(10, "ai5,ij7,aj2");
                x.set(0, 9);
                checks.due("place(9, 5)", 0, x.place(9, 5));
                checks.due("place(8, 5)", 7, x.place(8, 5));
                checks.due("place(0, 5)", 7, x.place(0, 5));
                checks.due("place(7, 5)", 0, x.place(7, 5));
                // of the phase 0 alone: the phase 1 has no third rank
                checks.due("place(2, 5), the last rank", 3, Webs.of(3, "ab5,bc3").place(2, 5));
            });
    }

    private static void refusedPlace(Edges edges) {
        edges.add("promise 15", "Returns the number; UNKNOWN", "no such place, however far out", checks -> {
            for (int places : new int[] {2, 10}) {
                for (int place : Edges.noPlaces(places)) {
                    for (int what = 0; what < 6; what++) {
                        int asked = what;
                        Edges.refused(checks, "place(" + place + ", " + what + ") of " + places, Edges.UNKNOWN,
                            () -> Webs.laden(places, "ab7"), x -> x.place(place, asked));
                    }
                }
            }
        });
        edges.add("promise 15", "BAD_VALUE.", "what is none of 0 to 5", checks -> {
            for (int what : Edges.outside(5)) {
                Edges.refused(checks, "place(3, " + what + ")", Edges.BAD_VALUE, () -> Webs.laden(4, "ab7"),
                    x -> x.place(3, what));
            }
        });
        edges.add("promise 15", "UNKNOWN; BAD_VALUE.", "the order, when both apply", checks -> {
            checks.due("place(4, 6)", Edges.UNKNOWN, new PartedWebs().place(4, 6));
            checks.due("place(-1, -1)", Edges.UNKNOWN, new PartedWebs().place(-1, -1));
        });
    }

    private static void leastOf(Edges edges) {
        edges.add("promise 19", "a rank, from 0", "the first and the last one, of one, of all there can be", checks -> {
            checks.due("leastOf(0) of two places", 2, Webs.of(2, "ab99").leastOf(0));
            PartedWebs x = Webs.of(10, "");
            for (int rank : new int[] {0, 1, 255, 509, 510}) {
                checks.due("leastOf(" + rank + ") of ten places", 2 * rank + 2, x.leastOf(rank));
            }
        });
        edges.add("promise 19", "BAD_VALUE if rank is negative", "-1, and the least number there is", checks -> {
            for (int rank : new int[] {-1, -2, -512, Integer.MIN_VALUE}) {
                Edges.refused(checks, "leastOf(" + rank + ")", Edges.BAD_VALUE, () -> Webs.laden(4, "ab7"),
                    x -> x.leastOf(rank));
            }
        });
        edges.add("promise 19", "NONE if there are not so many.", "the first rank behind the last one", checks -> {
            // c, d, or both, may stand on either side: three least partings
            PartedWebs x = Webs.of(4, "ab7");
            checks.due("leastOf(2)", 12, x.leastOf(2));
            for (int rank : new int[] {3, 4, 256, 511, 512, Integer.MAX_VALUE}) {
                Edges.refused(checks, "leastOf(" + rank + ")", Edges.NONE, () -> Webs.laden(4, "ab7"),
                    y -> y.leastOf(rank));
            }
            checks.due("leastOf(1) of two places", Edges.NONE, Webs.of(2, "").leastOf(1));
            checks.due("leastOf(511) of ten places", Edges.NONE, Webs.of(10, "").leastOf(511));
        });
    }

    private static void between(Edges edges) {
        edges.add("promise 20", "of several the first one.", "without ties, the first and the last places", checks -> {
            PartedWebs x = Webs.of(10, "");
            checks.due("between(0, 1, 0)", 2, x.between(0, 1, 0));
            checks.due("between(0, 9, 0)", 512, x.between(0, 9, 0));
            checks.due("between(9, 0, 0)", 512, x.between(9, 0, 0));
            checks.due("between(8, 9, 0)", 256, x.between(8, 9, 0));
            checks.due("between(9, 1, 0)", 2, x.between(9, 1, 0));
        });
        edges.add("promise 20", "Tells the least parting of those that part two places", "a lighter one that does not",
            checks -> {
                PartedWebs x = Webs.of(4, "ab50,ac50,bc50,cd1");
                checks.due("between(0, 1, 0), not {d}", 2, x.between(0, 1, 0));
                checks.due("between(0, 1, 1), not {d}", 100, x.between(0, 1, 1));
                checks.due("between(3, 1, 0)", 8, x.between(3, 1, 0));
                checks.due("between(3, 1, 1)", 1, x.between(3, 1, 1));
                x.set(1, 5);
                checks.due("between(3, 1, 0), fair or not", 8, x.between(3, 1, 0));
                checks.due("between(0, 1, 0) of two places", 2, Webs.of(2, "ab99").between(0, 1, 0));
                checks.due("between(1, 0, 1) of two places", 99, Webs.of(2, "ab99").between(1, 0, 1));
            });
    }

    private static void refusedBetween(Edges edges) {
        edges.add("promise 20", "UNKNOWN (one or other)", "no such place, however far out, on either side", checks -> {
            for (int place : Edges.noPlaces(4)) {
                Edges.refused(checks, "between(0, " + place + ", 0)", Edges.UNKNOWN, () -> Webs.laden(4, "ab7"),
                    x -> x.between(0, place, 0));
                Edges.refused(checks, "between(" + place + ", 3, 1)", Edges.UNKNOWN, () -> Webs.laden(4, "ab7"),
                    x -> x.between(place, 3, 1));
            }
        });
        edges.add("promise 20", "BAD_VALUE", "neither 0 nor 1 is asked", checks -> {
            for (int what : Edges.outside(1)) {
                Edges.refused(checks, "between(0, 1, " + what + ")", Edges.BAD_VALUE, () -> Webs.laden(4, "ab7"),
                    x -> x.between(0, 1, what));
            }
        });
        edges.add("promise 20", "(also if both are the same)", "each place, whatever is asked", checks -> {
            for (int place = 0; place < 4; place++) {
                int same = place;
                for (int what = -1; what <= 2; what++) {
                    int asked = what;
                    Edges.refused(checks, "between(" + place + ", " + place + ", " + what + ")", Edges.BAD_VALUE,
                        () -> Webs.laden(4, "ab7"), x -> x.between(same, same, asked));
                }
            }
        });
        edges.add("promise 20", "UNKNOWN (one or other); BAD_VALUE (also if both are the same).",
            "the order, when both apply", checks -> {
                checks.due("between(0, 4, 2)", Edges.UNKNOWN, new PartedWebs().between(0, 4, 2));
                checks.due("between(4, 4, 0)", Edges.UNKNOWN, new PartedWebs().between(4, 4, 0));
                checks.due("between(-1, 0, -1)", Edges.UNKNOWN, new PartedWebs().between(-1, 0, -1));
            });
    }

    private static void parting(Edges edges) {
        edges.add("promise 21", "Returns its weight", "the first parting and the last one, of two places and of ten",
            checks -> {
                checks.due("parting(2) of two places", 99, Webs.of(2, "ab99").parting(2));
                PartedWebs x = Webs.of(10, "ab7,aj5,ij99");
                checks.due("parting(2)", 7, x.parting(2));
                checks.due("parting(512)", 104, x.parting(512));
                checks.due("parting(768)", 5, x.parting(768));
                checks.due("parting(1022)", 12, x.parting(1022));
            });
        edges.add("promise 21", "BAD_VALUE if it is none.",
            "the empty set, places that are not there, far out", checks -> {
            int[] sets = {0, 1, 3, 15, 16, 17, 18, 30, 32, 1024, -1, -2, -8, -16, 256 + 2, 65536 + 2, (1 << 30) + 2,
                Integer.MIN_VALUE, Integer.MIN_VALUE + 2, Integer.MAX_VALUE, Integer.MAX_VALUE - 1};
            for (int set : sets) {
                Edges.refused(checks, "parting(" + set + ")", Edges.BAD_VALUE, () -> Webs.laden(4, "ab7"),
                    x -> x.parting(set));
            }
            PartedWebs x = Webs.of(10, "");
            checks.due("parting(1022) of ten places", 0, x.parting(1022));
            checks.due("parting(1023) of ten places", Edges.BAD_VALUE, x.parting(1023));
            checks.due("parting(1024) of ten places", Edges.BAD_VALUE, x.parting(1024));
            checks.due("parting(1026) of ten places", Edges.BAD_VALUE, x.parting(1026));
            x.remove(9);
            checks.due("parting(512) of nine places", Edges.BAD_VALUE, x.parting(512));
            checks.due("parting(510) of nine places", 0, x.parting(510));
            checks.due("parting(4) of two places", Edges.BAD_VALUE, Webs.of(2, "").parting(4));
        });
    }

    private static void wouldBe(Edges edges) {
        edges.add("promise 22", "0 to 99", "the least and the greatest weight", checks -> {
            PartedWebs x = Webs.of(4, "ab5,bc3,cd7,ad1");
            checks.due("wouldBe(0, 3, 0)", 3, x.wouldBe(0, 3, 0));
            checks.due("wouldBe(3, 0, 99)", 8, x.wouldBe(3, 0, 99));
            checks.due("wouldBe(0, 1, 99) of two places", 99, Webs.of(2, "").wouldBe(0, 1, 99));
            checks.due("wouldBe(0, 1, 0) of two places", 0, Webs.of(2, "ab99").wouldBe(0, 1, 0));
            checks.due("wouldBe(8, 9, 99) of ten places", 0, Webs.of(10, "").wouldBe(8, 9, 99));
        });
        edges.add("promise 22", "if the weight of two places was another one.", "the same weight; nothing is changed",
            checks -> {
                PartedWebs x = Webs.laden(4, "ab5,bc3,cd7,ad1");
                checks.due("wouldBe(0, 3, 1), as it is", 4, x.wouldBe(0, 3, 1));
                checks.due("wouldBe(0, 2, 0), as it is", 4, x.wouldBe(0, 2, 0));
                x.wouldBe(0, 1, 0);
                x.wouldBe(2, 3, 99);
                checks.same("after it", Webs.whole(Webs.laden(4, "ab5,bc3,cd7,ad1")), Webs.whole(x));
            });
    }

    private static void leastWeightOfWouldBe(Edges edges) {
        edges.add("promise 22", "Returns the least weight",
            "0 of two parts, and of a parting that leaves both together", checks -> {
                PartedWebs x = Webs.of(4, "ab5,cd7");
                checks.due("wouldBe(0, 1, 99), {c, d} is least", 0, x.wouldBe(0, 1, 99));
                checks.due("wouldBe(0, 1, 0), {b} too", 0, x.wouldBe(0, 1, 0));
                checks.due("wouldBe(1, 2, 3) joins both parts", 3, x.wouldBe(1, 2, 3));
                checks.due("wouldBe(1, 2, 99) joins both parts", 5, x.wouldBe(1, 2, 99));
                x.set(1, 5);
                checks.due("wouldBe(1, 2, 3), fair or not", 3, x.wouldBe(1, 2, 3));
            });
    }

    private static void refusedWouldBe(Edges edges) {
        edges.add("promise 22", "UNKNOWN (one or other)", "no such place, however far out, on either side", checks -> {
            for (int place : Edges.noPlaces(4)) {
                Edges.refused(checks, "wouldBe(0, " + place + ", 5)", Edges.UNKNOWN, () -> Webs.laden(4, "ab7"),
                    x -> x.wouldBe(0, place, 5));
                Edges.refused(checks, "wouldBe(" + place + ", 3, 5)", Edges.UNKNOWN, () -> Webs.laden(4, "ab7"),
                    x -> x.wouldBe(place, 3, 5));
            }
        });
        edges.add("promise 22", "BAD_VALUE", "a weight below 0 or above 99", checks -> {
            for (int weight : Edges.badWeights()) {
                Edges.refused(checks, "wouldBe(0, 1, " + weight + ")", Edges.BAD_VALUE, () -> Webs.laden(4, "ab7"),
                    x -> x.wouldBe(0, 1, weight));
            }
        });
        edges.add("promise 22", "(also if both are the same)", "each place, whatever the weight", checks -> {
            for (int place = 0; place < 4; place++) {
                int same = place;
                for (int weight : new int[] {0, 99, 100, -1}) {
                    Edges.refused(checks, "wouldBe(" + place + ", " + place + ", " + weight + ")", Edges.BAD_VALUE,
                        () -> Webs.laden(4, "ab7"), x -> x.wouldBe(same, same, weight));
                }
            }
        });
        edges.add("promise 22", "UNKNOWN (one or other); BAD_VALUE (also if both are the same).",
            "the order, when both apply", checks -> {
                checks.due("wouldBe(0, 4, 100)", Edges.UNKNOWN, new PartedWebs().wouldBe(0, 4, 100));
                checks.due("wouldBe(4, 4, 5)", Edges.UNKNOWN, new PartedWebs().wouldBe(4, 4, 5));
                checks.due("wouldBe(-1, 0, -1)", Edges.UNKNOWN, new PartedWebs().wouldBe(-1, 0, -1));
            });
    }

    private static void tight(Edges edges) {
        edges.add("promise 23", "by the lower place, then by the other one.",
            "pairs with a place in common, and without",
            checks -> {
                // {d, e, f} is the one least parting
                PartedWebs x = Webs.of(6, "ab90,bc90,ac90,de90,ef90,df90,af1,bd1,ae1,ce1,cd1");
                int[] due = {4, 5, 13, 23, 24, Edges.NONE};
                for (int rank = 0; rank < due.length; rank++) {
                    checks.due("tight(" + rank + ")", due[rank], x.tight(rank));
                }
            });
        edges.add("promise 23", "Returns 10 times the lower place plus the other one",
            "the first pair and the last one",
            checks -> {
                checks.due("tight(0) of a and b", 1, Webs.of(2, "ab5").tight(0));
                checks.due("tight(0) of i and j", 89,
                    Webs.of(10, "ab9,bc9,cd9,de9,ef9,fg9,gh9,hi9,ij8").tight(0));
            });
        edges.add("promise 23", "a rank, from 0", "the first and the last one of two", checks -> {
            PartedWebs x = Webs.of(3, "ab1,ac1,bc3");
            checks.due("tight(0)", 1, x.tight(0));
            checks.due("tight(1)", 2, x.tight(1));
        });
        edges.add("promise 23", "BAD_VALUE if rank is negative", "-1, and the least number there is", checks -> {
            for (int rank : new int[] {-1, -2, -45, Integer.MIN_VALUE}) {
                Edges.refused(checks, "tight(" + rank + ")", Edges.BAD_VALUE, () -> Webs.laden(2, "ab7"),
                    x -> x.tight(rank));
            }
        });
        edges.add("promise 23", "NONE if there are not so many.", "no pair, one pair, and as many as there can be",
            checks -> {
                for (int rank : new int[] {1, 2, 45, 256, Integer.MAX_VALUE}) {
                    Edges.refused(checks, "tight(" + rank + ") of one", Edges.NONE, () -> Webs.laden(2, "ab7"),
                        x -> x.tight(rank));
                }
                Edges.refused(checks, "tight(0) of none", Edges.NONE, () -> Webs.laden(2, ""), x -> x.tight(0));
                // {f, .., j} is the one least parting: each place of it is tied to each other one by 1
                StringBuilder ties = new StringBuilder("ab99,bc99,cd99,de99,ae99,fg99,gh99,hi99,ij99,fj99");
                for (char one = 'a'; one <= 'e'; one++) {
                    for (char other = 'f'; other <= 'j'; other++) {
                        ties.append(',').append(one).append(other).append(1);
                    }
                }
                PartedWebs x = Webs.of(10, ties.toString());
                checks.due("tight(24)", 49, x.tight(24));
                checks.due("tight(25)", Edges.NONE, x.tight(25));
            });
    }

    private static void count(Edges edges) {
        edges.add("promise 24", "0 for the places", "two and ten", checks -> {
            checks.due("count(0)", 2, Webs.of(2, "").count(0));
            checks.due("count(0)", 10, Webs.of(10, "").count(0));
        });
        edges.add("promise 24", "1 for ties (pairs with a weight above 0)",
            "none, weights of 0 and 1, and 45", checks -> {
            checks.due("count(1) of none", 0, new PartedWebs().count(1));
            PartedWebs x = Webs.of(4, "ab1,cd99");
            checks.due("count(1) of two", 2, x.count(1));
            x.tie(0, 1, 0);
            checks.due("count(1) of one", 1, x.count(1));
            checks.due("count(1) of 45", 45, all().count(1));
        });
        edges.add("promise 24", "2 for all weights together", "none, and the most there can be", checks -> {
            checks.due("count(2) of none", 0, new PartedWebs().count(2));
            checks.due("count(2) of one", 1, Webs.of(2, "ab1").count(2));
            checks.due("count(2) of 45 of 99", 4455, all().count(2));
        });
        edges.add("promise 24", "3 for all least partings (how many)", "one, and 511", checks -> {
            checks.due("count(3) of two places", 1, Webs.of(2, "").count(3));
            checks.due("count(3) of ten places without ties", 511, Webs.of(10, "").count(3));
            checks.due("count(3) of ten places with all ties", 10, all().count(3));
        });
        edges.add("promise 24", "4 for tight pairs", "none, and one", checks -> {
            checks.due("count(4) without ties", 0, Webs.of(2, "").count(4));
            checks.due("count(4) with one tie", 1, Webs.of(2, "ab1").count(4));
            checks.due("count(4) with all ties", 0, all().count(4));
        });
        edges.add("promise 24", "5 for parts that no ties join (how many)", "one, and as many as places", checks -> {
            checks.due("count(5) of ten without ties", 10, Webs.of(10, "").count(5));
            checks.due("count(5) of two without ties", 2, Webs.of(2, "").count(5));
            checks.due("count(5) of a way through all", 1,
                Webs.of(10, "aj1,bj1,bi1,ci1,ch1,dh1,dg1,eg1,ef1").count(5));
            checks.due("count(5) of two parts", 2, Webs.of(10, "aj1,bj1,bi1,ci1,dh1,dg1,eg1,ef1").count(5));
        });
    }

    /** All pairs of ten places are tied by 99. */
    private static PartedWebs all() {
        PartedWebs x = Webs.of(10, "");
        for (int one = 0; one < 10; one++) {
            for (int other = one + 1; other < 10; other++) {
                x.tie(one, other, 99);
            }
        }
        return x;
    }

    private static void countOfTheOthers(Edges edges) {
        edges.add("promise 24", "6 for the starting place", "the first one and the last one", checks -> {
            PartedWebs x = Webs.of(10, "");
            checks.due("count(6) at first", 0, x.count(6));
            x.set(0, 9);
            checks.due("count(6) of the last one", 9, x.count(6));
        });
        edges.add("promise 24", "7 for the least places of a fair part", "1 and 5", checks -> {
            checks.due("count(7) at first", 1, new PartedWebs().count(7));
            checks.due("count(7) of 5", 5, fairOf(2, 5, "").count(7));
        });
        edges.add("promise 24", "8 for fair partings (how many)", "none, one, and all", checks -> {
            checks.due("count(8) of none", 0, fairOf(9, 5, "").count(8));
            checks.due("count(8) of one", 1, fairOf(2, 1, "").count(8));
            checks.due("count(8) of all", 511, fairOf(10, 1, "").count(8));
        });
        edges.add("promise 24", "9 for the states in the history", "none, and 4 after five acts", checks -> {
            PartedWebs x = new PartedWebs();
            checks.due("count(9) at first", 0, x.count(9));
            for (int weight = 1; weight <= 5; weight++) {
                x.tie(0, 1, weight);
            }
            checks.due("count(9) after five acts", 4, x.count(9));
        });
        edges.add("promise 24", "10 for the length of the text", "empty and full", checks -> {
            PartedWebs x = new PartedWebs();
            checks.due("count(10) at first", 0, x.count(10));
            for (int i = 0; i < 61; i++) {
                x.type('a');
            }
            checks.due("count(10) of a full text", 60, x.count(10));
        });
        edges.add("promise 24", "Returns the number; BAD_VALUE.", "what is none of 0 to 10", checks -> {
            for (int what : Edges.outside(10)) {
                Edges.refused(checks, "count(" + what + ")", Edges.BAD_VALUE, () -> Webs.laden(4, "ab7"),
                    x -> x.count(what));
            }
        });
    }
}
