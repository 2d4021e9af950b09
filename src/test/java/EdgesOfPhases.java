/** Sentences of promises 16 to 18, and of PHASES, that name a boundary case. */
final class EdgesOfPhases {
    private EdgesOfPhases() {
    }

    static void addTo(Edges edges) {
        phases(edges);
        lumps(edges);
        group(edges);
        partings(edges);
        phase(edges);
        swallowed(edges);
        refusedSwallowed(edges);
        leastByPhases(edges);
        least(edges);
    }

    private static PartedWebs from(int start, int places, String ties) {
        PartedWebs x = Webs.of(places, ties);
        x.set(0, start);
        return x;
    }

    /** Names and nearnesses of a phase, in their order. */
    private static String order(PartedWebs x, int phase) {
        StringBuilder told = new StringBuilder();
        for (int rank = 0; rank < x.phase(phase, 5); rank++) {
            told.append(rank == 0 ? "" : " ").append(x.swallowed(phase, rank, false)).append(':')
                .append(x.swallowed(phase, rank, true));
        }
        return told.toString();
    }

    private static void phases(Edges edges) {
        edges.add("PHASES", "A web of n places is swallowed in n - 1 phases, numbered from 0.", "2 and 10 places",
            checks -> {
                PartedWebs x = Webs.of(2, "");
                checks.due("phase(0, 5) of two places", 2, x.phase(0, 5));
                checks.due("phase(1, 5) of two places", Edges.UNKNOWN, x.phase(1, 5));
                x = Webs.of(10, "");
                for (int phase = 0; phase < 9; phase++) {
                    checks.due("phase(" + phase + ", 5) of ten places", 10 - phase, x.phase(phase, 5));
                }
                checks.due("phase(9, 5) of ten places", Edges.UNKNOWN, x.phase(9, 5));
                checks.due("phase(-1, 5) of ten places", Edges.UNKNOWN, x.phase(-1, 5));
            });
        edges.add("PHASES", "at the beginning of the phase 0 each place is a lump by itself.", "2 and 10 places",
            checks -> {
                checks.same("two places", "0:0 1:7", order(Webs.of(2, "ab7"), 0));
                checks.same("ten places", "0:0 1:0 2:0 3:0 4:0 5:0 6:0 7:0 8:0 9:0", order(Webs.of(10, ""), 0));
                PartedWebs x = Webs.of(10, "ij99");
                checks.same("ten places", "0:0 1:0 2:0 3:0 4:0 5:0 6:0 7:0 8:0 9:99", order(x, 0));
                checks.due("phase(0, 0), after all phases were run", 512, x.phase(0, 0));
                checks.due("phase(0, 4), after all phases were run", 256 + 512, x.phase(0, 4));
                checks.same("ten places, after all phases were run", "0:0 1:0 2:0 3:0 4:0 5:0 6:0 7:0 8:0 9:99",
                    order(x, 0));
                PartedWebs y = from(1, 2, "ab7");
                checks.due("phase(0, 0), a is the last", 2, y.phase(0, 0));
                checks.due("phase(0, 0), after all phases were run", 2, y.phase(0, 0));
                checks.same("two places from b, after all phases were run", "1:0 0:7", order(y, 0));
            });
    }

    private static void lumps(Edges edges) {
        edges.add("PHASES", "The weight between two lumps is that of all ties between a place of the one and a place of"
            + " the other, together.", "sums above 99", checks -> {
                PartedWebs x = Webs.of(4, "ac99,ad99,bc99,bd99,cd99,ab99");
                checks.same("phase 0", "0:0 1:99 2:198 3:297", order(x, 0));
                checks.same("phase 1", "0:0 2:198 1:297", order(x, 1));
                checks.same("phase 2", "0:0 1:297", order(x, 2));
                StringBuilder all = new StringBuilder();
                for (char one = 'a'; one <= 'j'; one++) {
                    for (char other = (char) (one + 1); other <= 'j'; other++) {
                        all.append(all.length() == 0 ? "" : ",").append(one).append(other).append(99);
                    }
                }
                x = Webs.of(10, all.toString());
                // a lump of k places is tied to the others by k * (10 - k) * 99
                int[] due = {891, 891, 891, 891, 891, 1584, 1584, 2376, 891};
                for (int phase = 0; phase < 9; phase++) {
                    checks.due("phase(" + phase + ", 1) of ten places", due[phase], x.phase(phase, 1));
                }
            });
        edges.add("PHASES", "A lump is named by its lowest place.", "the last lump is the lower one, or the higher one",
            checks -> {
                // d and c become one by c, whichever is the last
                PartedWebs x = Webs.of(4, "ab5,ad2,ac1");
                checks.due("phase(0, 2), c is the last", 2, x.phase(0, 2));
                checks.same("phase 1", "0:0 1:5 2:3", order(x, 1));
                PartedWebs y = Webs.of(4, "ab5,ad1,ac2");
                checks.due("phase(0, 2), d is the last", 3, y.phase(0, 2));
                checks.same("phase 1", "0:0 1:5 2:3", order(y, 1));
                // a lump of three: {c, d} and b become b
                PartedWebs z = from(0, 5, "ae5,de1");
                checks.same("phase 2", "0:0 4:5 1:1", order(z, 2));
            });
        edges.add("PHASES", "the last two lumps in the order (the swallowed ones, and the first one ahead of them) become"
            + " one lump.", "two lumps: the first one too", checks -> {
                PartedWebs x = from(1, 2, "ab7");
                checks.due("phase(0, 2)", 0, x.phase(0, 2));
                checks.due("phase(0, 3)", 1, x.phase(0, 3));
                checks.due("phase(0, 4)", 3, x.phase(0, 4));
                PartedWebs y = from(9, 10, "");
                checks.due("phase(8, 2)", 0, y.phase(8, 2));
                checks.due("phase(8, 3)", 9, y.phase(8, 3));
                checks.due("phase(8, 4)", 1023, y.phase(8, 4));
                checks.due("phase(7, 4), without the first one", 511, y.phase(7, 4));
            });
    }

    private static void group(Edges edges) {
        edges.add("PHASES", "the lump with the starting place at first (a setting; 0 at first)",
            "each starting place, in each phase", checks -> {
                checks.due("count(6) at first", 0, new PartedWebs().count(6));
                checks.due("swallowed(0, 0, false) at first", 0, new PartedWebs().swallowed(0, 0, false));
                for (int start = 0; start < 10; start++) {
                    PartedWebs x = from(start, 10, "ab1,ij9,ei4");
                    for (int phase = 0; phase < 9; phase++) {
                        checks.due("swallowed(" + phase + ", 0, false) from " + start, start,
                            x.swallowed(phase, 0, false));
                    }
                }
            });
        edges.add("PHASES", "the one whose weights to the lumps in the group are the greatest together",
            "many small weights against one great one", checks ->
                // c is tied to a and b by 3 and 3, d to b alone by 5
                checks.same("phase 0", "0:0 1:9 2:6 3:5", order(Webs.of(4, "ab9,ac3,bc3,bd5"), 0)));
        edges.add("PHASES", "of several the one with the lowest name", "without ties, and with equal ones", checks -> {
            checks.same("from the last place", "3:0 0:0 1:0 2:0", order(from(3, 4, ""), 0));
            checks.same("from one between", "2:0 0:0 1:0 3:0", order(from(2, 4, ""), 0));
            checks.same("equal ties", "0:0 1:2 2:2 3:2", order(Webs.of(4, "ab2,ac2,ad2"), 0));
            // {b, e} is named b, so it comes ahead of c and d
            PartedWebs x = Webs.of(5, "ac2,ad2,ab1,ae1");
            checks.same("phase 0", "0:0 2:2 3:2 1:1 4:1", order(x, 0));
            checks.same("phase 1", "0:0 1:2 2:2 3:2", order(x, 1));
        });
    }

    private static void partings(Edges edges) {
        edges.add("PHASES", "The parting of the phase is the last lump that was swallowed",
            "the last place, and a lump",
            checks -> {
                PartedWebs x = Webs.of(10, "");
                checks.due("phase(0, 0)", 512, x.phase(0, 0));
                checks.due("phase(1, 0)", 256 + 512, x.phase(1, 0));
                checks.due("phase(8, 0)", 1022, x.phase(8, 0));
            });
        edges.add("PHASES", "or all other places if it has the place 0", "the place 0 by itself, and in a lump",
            checks -> {
                checks.due("phase(0, 0) of two from b", 2, from(1, 2, "").phase(0, 0));
                checks.due("phase(0, 0) from b, a is the last", 14, from(1, 4, "bc2,cd2").phase(0, 0));
                // from d: b is the last, then the lump of a and b
                PartedWebs x = from(3, 4, "cd5");
                checks.due("phase(0, 0)", 2, x.phase(0, 0));
                checks.due("phase(1, 0)", 12, x.phase(1, 0));
                checks.due("phase(2, 0)", 8, x.phase(2, 0));
            });
        edges.add("PHASES", "its weight is the nearness of that lump.",
            "0, and the parting's weight otherwise", checks -> {
            PartedWebs x = Webs.of(4, "");
            checks.due("phase(0, 1) without ties", 0, x.phase(0, 1));
            for (int start = 0; start < 5; start++) {
                PartedWebs y = from(start, 5, "ab9,bc7,cd8,de6,ad3,be99");
                for (int phase = 0; phase < 4; phase++) {
                    checks.due("phase(" + phase + ", 1) from " + start, y.parting(y.phase(phase, 0)),
                        y.phase(phase, 1));
                    checks.due("phase(" + phase + ", 1) from " + start, y.swallowed(phase, 4 - phase, true),
                        y.phase(phase, 1));
                }
            }
        });
    }

    private static void phase(Edges edges) {
        edges.add("promise 16", "0 for its parting (a set), 1 for its weight, 2 for the name of the last lump, 3 for the"
            + " name of the lump ahead of it, 4 for the places of the lump that both become (a set), 5 for how many lumps"
            + " there are at its beginning", "the first phase and the last one", checks -> {
                PartedWebs x = Webs.of(4, "ab5,bc3,cd7,ad1");
                int[][] due = {{8, 8, 3, 2, 12, 4}, {12, 4, 2, 1, 14, 3}, {14, 6, 1, 0, 15, 2}};
                for (int phase = 0; phase < 3; phase++) {
                    for (int what = 0; what < 6; what++) {
                        checks.due("phase(" + phase + ", " + what + ")", due[phase][what], x.phase(phase, what));
                    }
                }
            });
        edges.add("promise 16", "Returns the number; UNKNOWN", "no such phase, however far out", checks -> {
            for (int places : new int[] {2, 4, 10}) {
                for (int phase : Edges.noPlaces(places - 1)) {
                    Edges.refused(checks, "phase(" + phase + ", 0) of " + places, Edges.UNKNOWN,
                        () -> Webs.laden(places, "ab7"), x -> x.phase(phase, 0));
                }
            }
            PartedWebs x = Webs.of(4, "");
            x.remove(0);
            checks.due("phase(1, 5) after remove(0)", 2, x.phase(1, 5));
            checks.due("phase(2, 5) after remove(0)", Edges.UNKNOWN, x.phase(2, 5));
            x.grow();
            checks.due("phase(2, 5) after grow()", 2, x.phase(2, 5));
        });
        edges.add("promise 16", "BAD_VALUE.", "what is none of 0 to 5", checks -> {
            for (int what : Edges.outside(5)) {
                Edges.refused(checks, "phase(2, " + what + ")", Edges.BAD_VALUE, () -> Webs.laden(4, "ab7"),
                    x -> x.phase(2, what));
            }
        });
        edges.add("promise 16", "UNKNOWN; BAD_VALUE.", "the order, when both apply", checks -> {
            checks.due("phase(3, 6)", Edges.UNKNOWN, new PartedWebs().phase(3, 6));
            checks.due("phase(-1, -1)", Edges.UNKNOWN, new PartedWebs().phase(-1, -1));
        });
    }

    private static void swallowed(Edges edges) {
        edges.add("promise 17", "a rank, from 0 (the lump with the starting place)", "the first rank, in each phase",
            checks -> {
                PartedWebs x = from(2, 4, "ab9,cd1");
                for (int phase = 0; phase < 3; phase++) {
                    checks.due("swallowed(" + phase + ", 0, false)", 2, x.swallowed(phase, 0, false));
                }
            });
        edges.add("promise 17", "(0 for the rank 0)", "the nearness of the first lump, in each phase", checks -> {
            PartedWebs x = from(1, 4, "ab99,bc99,bd99");
            for (int phase = 0; phase < 3; phase++) {
                checks.due("swallowed(" + phase + ", 0, true)", 0, x.swallowed(phase, 0, true));
                checks.holds("swallowed(" + phase + ", 1, true) above 0", x.swallowed(phase, 1, true) > 0);
            }
        });
        edges.add("promise 17", "whether the nearness is told (0 for the rank 0), otherwise the name of the lump",
            "the last rank of the first phase and of the last one", checks -> {
                PartedWebs x = Webs.of(10, "ai5,ij7");
                checks.due("swallowed(0, 2, false)", 9, x.swallowed(0, 2, false));
                checks.due("swallowed(0, 2, true)", 7, x.swallowed(0, 2, true));
                checks.due("swallowed(0, 9, false)", 7, x.swallowed(0, 9, false));
                checks.due("swallowed(0, 9, true)", 0, x.swallowed(0, 9, true));
                checks.due("swallowed(8, 1, false)", 1, x.swallowed(8, 1, false));
                checks.due("swallowed(8, 1, true)", 5, x.swallowed(8, 1, true));
            });
    }

    private static void refusedSwallowed(Edges edges) {
        edges.add("promise 17", "UNKNOWN (phase)", "no such phase, however far out", checks -> {
            for (int phase : Edges.noPlaces(3)) {
                for (boolean near : new boolean[] {false, true}) {
                    Edges.refused(checks, "swallowed(" + phase + ", 0, " + near + ")", Edges.UNKNOWN,
                        () -> Webs.laden(4, "ab7"), x -> x.swallowed(phase, 0, near));
                }
            }
            checks.due("swallowed(1, 0, false) of two places", Edges.UNKNOWN, Webs.of(2, "").swallowed(1, 0, false));
            checks.due("swallowed(9, 0, false) of ten places", Edges.UNKNOWN, Webs.of(10, "").swallowed(9, 0, false));
        });
        edges.add("promise 17", "BAD_VALUE if rank is negative", "-1, and the least number there is", checks -> {
            for (int rank : new int[] {-1, -2, -32, Integer.MIN_VALUE}) {
                for (boolean near : new boolean[] {false, true}) {
                    Edges.refused(checks, "swallowed(2, " + rank + ", " + near + ")", Edges.BAD_VALUE,
                        () -> Webs.laden(4, "ab7"), x -> x.swallowed(2, rank, near));
                }
            }
        });
        edges.add("promise 17", "NONE if there are not so many lumps.",
            "the first rank behind the last lump", checks -> {
            for (int phase = 0; phase < 3; phase++) {
                int asked = phase;
                checks.holds("swallowed(" + phase + ", " + (3 - phase) + ", false)",
                    new PartedWebs().swallowed(phase, 3 - phase, false) >= 0);
                for (int rank : new int[] {4 - phase, 5, 10, 256, Integer.MAX_VALUE}) {
                    for (boolean near : new boolean[] {false, true}) {
                        Edges.refused(checks, "swallowed(" + phase + ", " + rank + ", " + near + ")", Edges.NONE,
                            () -> Webs.laden(4, "ab7"), x -> x.swallowed(asked, rank, near));
                    }
                }
            }
            checks.due("swallowed(0, 10, false) of ten places", Edges.NONE, Webs.of(10, "").swallowed(0, 10, false));
        });
        edges.add("promise 17", "UNKNOWN (phase); BAD_VALUE if rank is negative; NONE if there are not so many lumps.",
            "the order, when several apply", checks -> {
                checks.due("swallowed(3, -1, true)", Edges.UNKNOWN, new PartedWebs().swallowed(3, -1, true));
                checks.due("swallowed(-1, -1, true)", Edges.UNKNOWN, new PartedWebs().swallowed(-1, -1, true));
                checks.due("swallowed(3, 4, true)", Edges.UNKNOWN, new PartedWebs().swallowed(3, 4, true));
            });
    }

    private static void leastByPhases(Edges edges) {
        edges.add("PHASES", "that of the phase with the least weight, of several the first one.",
            "equal phases, and the last phase", checks -> {
                PartedWebs x = Webs.of(4, "ab2,bc2,cd2,ad2");
                checks.due("least(2) of a ring", 0, x.least(2));
                checks.due("least(0) of a ring", 8, x.least(0));
                checks.due("least(1) of a ring", 4, x.least(1));
                x = Webs.of(10, "");
                checks.due("least(2) without ties", 0, x.least(2));
                // the last phase alone parts a from the others by no more than 1
                x = Webs.of(4, "ab1,bc9,cd9,bd9");
                checks.due("least(2)", 2, x.least(2));
                checks.due("least(0)", 14, x.least(0));
                checks.due("least(1)", 1, x.least(1));
                // the second and the third phase are equal
                x = Webs.of(4, "ab2,bc2,cd9");
                checks.due("phase(1, 1)", 2, x.phase(1, 1));
                checks.due("phase(2, 1)", 2, x.phase(2, 1));
                checks.due("least(2)", 1, x.least(2));
                checks.due("least(0)", 12, x.least(0));
            });
    }

    private static void least(Edges edges) {
        edges.add("promise 18", "(all by phases)",
            "of several least partings, not the first one by its set", checks -> {
            PartedWebs x = Webs.of(4, "ab2,bc2,cd2,ad2");
            checks.due("least(0)", 8, x.least(0));
            checks.due("least(3)", 2, x.least(3));
            x.set(1, 5);
            checks.due("least(0), though none is fair", 8, x.least(0));
            checks.due("least(1), though none is fair", 4, x.least(1));
            checks.due("least(2), though none is fair", 0, x.least(2));
        });
        edges.add("promise 18", "0 for its set, 1 for its weight, 2 for the phase that tells it", "two places, and ten",
            checks -> {
                int[] due = {2, 99, 0, 2, 99};
                PartedWebs x = Webs.of(2, "ab99");
                for (int what = 0; what < 5; what++) {
                    checks.due("least(" + what + ") of two places", due[what], x.least(what));
                }
                // the last of nine phases alone tells that a is tied to the others by 1
                PartedWebs y = Webs.of(10, "ab1,bc9,cd9,de9,ef9,fg9,gh9,hi9,ij9");
                checks.due("least(0) of ten places", 1022, y.least(0));
                checks.due("least(1) of ten places", 1, y.least(1));
                checks.due("least(2) of ten places", 8, y.least(2));
            });
        edges.add("promise 18", "(NONE if there is no fair one)", "as many places as both parts need, and one fewer",
            checks -> {
                for (int fair = 2; fair <= 5; fair++) {
                    int least = fair;
                    PartedWebs x = Webs.of(2 * fair, "");
                    x.set(1, fair);
                    checks.due("least(3) of " + 2 * fair + " places with " + fair, (1 << fair + 1) - 2, x.least(3));
                    checks.due("least(4) of " + 2 * fair + " places with " + fair, 0, x.least(4));
                    for (int what = 3; what <= 4; what++) {
                        int asked = what;
                        Edges.refused(checks, "least(" + what + ") of a place fewer with " + fair, Edges.NONE,
                            () -> withFair(2 * least - 1, least), y -> y.least(asked));
                    }
                }
            });
        edges.add("promise 18", "Returns the number; BAD_VALUE.", "what is none of 0 to 4", checks -> {
            for (int what : Edges.outside(4)) {
                Edges.refused(checks, "least(" + what + ")", Edges.BAD_VALUE, () -> Webs.laden(4, "ab7"),
                    x -> x.least(what));
                checks.due("least(" + what + ") without a fair one", Edges.BAD_VALUE, withFair(2, 5).least(what));
            }
        });
    }

    private static PartedWebs withFair(int places, int fair) {
        PartedWebs x = Webs.laden(places, "ab7");
        x.set(1, fair);
        return x;
    }
}
