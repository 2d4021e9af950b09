/** Promises 14 to 24: what is told. */
public final class TellingTest {
    private static final Checks checks = new Checks("TellingTest");
    private static final int[] NO_PLACES = {-1, Integer.MIN_VALUE, Integer.MAX_VALUE, 10, 32, -32};
    private static final int[] NO_WHATS = {-1, 11, 12, 32, Integer.MIN_VALUE, Integer.MAX_VALUE};

    /** The web of Stoer and Wagner's paper, with its starting place: the weights of its phases are known. */
    private static PartedWebs paper() {
        PartedWebs x = Webs.of(8, "ab2,ae3,bc3,be2,bf2,cd4,cg2,dg2,dh2,ef3,fg1,gh3");
        x.set(0, 1);
        return x;
    }

    public static void main(String[] args) {
        weight();
        place();
        placesThatAreReached();
        phase();
        phaseOfTheStartingPlaces();
        swallowed();
        swallowedOfEqualNearness();
        least();
        leastFair();
        leastOf();
        between();
        parting();
        wouldBe();
        tight();
        count();
        countOfParts();
        askedFirst();
        askedAfterAChange();
        nothingIsChanged();
        checks.end();
    }

    private static void weight() {
        checks.part("promise 14");
        PartedWebs x = Webs.of(4, "ab5,cd99,ad1");
        int[][] due = {{-2, 5, 0, 1}, {5, -2, 0, 0}, {0, 0, -2, 99}, {1, 0, 99, -2}};
        for (int one = 0; one < 4; one++) {
            for (int other = 0; other < 4; other++) {
                checks.due("weight(" + one + ", " + other + ")", due[one][other], x.weight(one, other));
            }
        }
        checks.due("weight(0, 4)", -1, x.weight(0, 4));
        checks.due("weight(4, 0)", -1, x.weight(4, 0));
        checks.due("weight(4, 4)", -1, x.weight(4, 4));
        for (int place : NO_PLACES) {
            checks.due("weight(1, " + place + ")", -1, x.weight(1, place));
            checks.due("weight(" + place + ", 1)", -1, x.weight(place, 1));
            checks.due("weight of " + place + " twice", -1, x.weight(place, place));
        }
    }

    private static void place() {
        checks.part("promise 15");
        PartedWebs x = paper();
        int[][] due = {
            {5, 18, 255, 0, 7, 5}, {9, 53, 255, 1, 0, 0}, {9, 74, 255, 1, 1, 3}, {8, 196, 255, 0, 2, 4},
            {8, 35, 255, 0, 6, 5}, {6, 82, 255, 1, 5, 3}, {8, 172, 255, 1, 3, 4}, {5, 72, 255, 0, 4, 5},
        };
        for (int place = 0; place < 8; place++) {
            for (int what = 0; what < 6; what++) {
                checks.due("place(" + place + ", " + what + ")", due[place][what], x.place(place, what));
            }
            checks.due("place(" + place + ", 6)", -2, x.place(place, 6));
        }
        for (int what : NO_WHATS) {
            checks.due("place(0, " + what + ")", -2, x.place(0, what));
            checks.due("place(8, " + what + ")", -1, x.place(8, what));
        }
        for (int place : NO_PLACES) {
            checks.due("place(" + place + ", 0)", -1, x.place(place, 0));
            checks.due("place(" + place + ", 9)", -1, x.place(place, 9));
        }
        // rank and nearness are those of the phase 0
        x.set(0, 0);
        checks.due("place(1, 4) from a", 2, x.place(1, 4));
        checks.due("place(1, 5) from a", 4, x.place(1, 5));
        checks.due("place(4, 4) from a", 1, x.place(4, 4));
        checks.due("place(4, 5) from a", 3, x.place(4, 5));
        checks.due("place(0, 4) from a", 0, x.place(0, 4));
        checks.due("place(0, 5) from a", 0, x.place(0, 5));
        PartedWebs y = Webs.of(10, "aj99,bj99,cj99,dj99,ej99,fj99,gj99,hj99,ij99");
        checks.due("the weights of j", 891, y.place(9, 0));
        checks.due("the neighbours of j", 511, y.place(9, 1));
        // each of all least partings has one place of a to i, or all of b to j: no pair is parted by all
        checks.due("the tight pairs of j", 0, y.place(9, 3));
        y.tie(2, 9, 98);
        checks.due("the tight pairs of j", 1, y.place(9, 3));
        checks.due("the tight pairs of c", 1, y.place(2, 3));
        checks.due("the tight pairs of d", 0, y.place(3, 3));
        PartedWebs z = Webs.of(3, "ab1,ac1,bc3");
        checks.due("two tight pairs of a", 2, z.place(0, 3));
        checks.due("one of b", 1, z.place(1, 3));
        checks.due("one of c", 1, z.place(2, 3));
    }

    private static void placesThatAreReached() {
        PartedWebs x = Webs.of(10, "aj1,dj99,de5,bc1,ci2");
        int[] due = {537, 262, 262, 537, 537, 32, 64, 128, 262, 537};
        for (int place = 0; place < 10; place++) {
            checks.due("place(" + place + ", 2)", due[place], x.place(place, 2));
        }
        // a way through all the places, from the last numbers to the first ones and back
        x = Webs.of(10, "aj1,bj1,bi1,ci1,ch1,dh1,dg1,eg1,ef1");
        for (int place = 0; place < 10; place++) {
            checks.due("place(" + place + ", 2) of a long way", 1023, x.place(place, 2));
        }
        x.tie(2, 8, 0);
        checks.due("place(5, 2) of a broken way", 252, x.place(5, 2));
        checks.due("place(0, 2) of a broken way", 771, x.place(0, 2));
    }

    private static void phase() {
        checks.part("promise 16");
        PartedWebs x = paper();
        int[][] due = {
            {254, 5, 0, 4, 17, 8}, {128, 5, 7, 6, 192, 7}, {192, 7, 6, 3, 200, 6}, {200, 7, 3, 2, 204, 5},
            {204, 4, 2, 5, 236, 4}, {238, 7, 0, 2, 253, 3}, {2, 9, 0, 1, 255, 2},
        };
        for (int phase = 0; phase < 7; phase++) {
            for (int what = 0; what < 6; what++) {
                checks.due("phase(" + phase + ", " + what + ")", due[phase][what], x.phase(phase, what));
            }
            checks.due("phase(" + phase + ", 6)", -2, x.phase(phase, 6));
        }
        for (int what : NO_WHATS) {
            checks.due("phase(6, " + what + ")", -2, x.phase(6, what));
            checks.due("phase(7, " + what + ")", -1, x.phase(7, what));
        }
        checks.due("phase(7, 0)", -1, x.phase(7, 0));
        for (int phase : NO_PLACES) {
            checks.due("phase(" + phase + ", 0)", -1, x.phase(phase, 0));
            checks.due("phase(" + phase + ", 6)", -1, x.phase(phase, 6));
        }
        PartedWebs y = Webs.of(2, "ab7");
        int[] only = {2, 7, 1, 0, 3, 2};
        for (int what = 0; what < 6; what++) {
            checks.due("phase(0, " + what + ") of two places", only[what], y.phase(0, what));
        }
        checks.due("phase(1, 0) of two places", -1, y.phase(1, 0));
        // the nearness of a lump is that of all its ties together, which may be far above 99
        PartedWebs z = Webs.of(4, "ab99,ac99,ad99,bc99,bd99,cd99");
        checks.due("phase(0, 1)", 297, z.phase(0, 1));
        checks.due("phase(1, 1)", 297, z.phase(1, 1));
        checks.due("phase(2, 1)", 297, z.phase(2, 1));
        checks.due("phase(1, 2)", 1, z.phase(1, 2));
        checks.due("swallowed(1, 1, true)", 198, z.swallowed(1, 1, true));
    }

    private static void phaseOfTheStartingPlaces() {
        // a triangle with a tail; each starting place has phases of its own
        String ties = "ab3,bc2,ac1,cd4";
        String[] due = {
            "8 4 3 2 12 4, 12 3 2 1 14 3, 14 4 1 0 15 2", "8 4 3 2 12 4, 12 3 2 0 13 3, 2 5 0 1 15 2",
            "14 4 0 1 3 4, 12 3 0 3 11 3, 4 7 0 2 15 2", "14 4 0 1 3 4, 12 3 0 2 7 3, 8 4 0 3 15 2",
        };
        for (int start = 0; start < 4; start++) {
            PartedWebs x = Webs.of(4, ties);
            x.set(0, start);
            StringBuilder told = new StringBuilder();
            for (int phase = 0; phase < 3; phase++) {
                told.append(phase == 0 ? "" : ",");
                for (int what = 0; what < 6; what++) {
                    told.append(phase == 0 && what == 0 ? "" : " ").append(x.phase(phase, what));
                }
            }
            checks.same("the phases from " + start, due[start], told.toString());
        }
    }

    private static void swallowed() {
        checks.part("promise 17");
        PartedWebs x = paper();
        String[] due = {
            "1:0 2:3 3:4 6:4 7:5 5:3 4:5 0:5", "1:0 0:4 5:5 2:3 3:4 6:5 7:5", "1:0 0:4 5:5 2:3 3:4 6:7",
            "1:0 0:4 5:5 2:3 3:7", "1:0 0:4 5:5 2:4", "1:0 2:5 0:7", "1:0 0:9",
        };
        for (int phase = 0; phase < 7; phase++) {
            checks.same("the order of phase " + phase, due[phase], order(x, phase));
            checks.due("swallowed(" + phase + ", .., true)", -5, x.swallowed(phase, 8 - phase, true));
            checks.due("swallowed(" + phase + ", .., false)", -5, x.swallowed(phase, 8 - phase, false));
            checks.due("swallowed(" + phase + ", MAX, false)", -5, x.swallowed(phase, Integer.MAX_VALUE, false));
            checks.due("swallowed(" + phase + ", -1, false)", -2, x.swallowed(phase, -1, false));
            checks.due("swallowed(" + phase + ", MIN, true)", -2, x.swallowed(phase, Integer.MIN_VALUE, true));
        }
        checks.due("swallowed(7, 0, true)", -1, x.swallowed(7, 0, true));
        checks.due("swallowed(7, -1, false)", -1, x.swallowed(7, -1, false));
        checks.due("swallowed(7, 99, false)", -1, x.swallowed(7, 99, false));
        for (int phase : NO_PLACES) {
            checks.due("swallowed(" + phase + ", 0, false)", -1, x.swallowed(phase, 0, false));
            checks.due("swallowed(" + phase + ", -1, true)", -1, x.swallowed(phase, -1, true));
        }
    }

    /** Names and nearnesses of a phase, in their order. */
    private static String order(PartedWebs x, int phase) {
        StringBuilder told = new StringBuilder();
        for (int rank = 0; rank < x.phase(phase, 5); rank++) {
            told.append(rank == 0 ? "" : " ").append(x.swallowed(phase, rank, false)).append(':')
                .append(x.swallowed(phase, rank, true));
        }
        return told.toString();
    }

    private static void swallowedOfEqualNearness() {
        PartedWebs x = Webs.of(5, "");
        x.set(0, 2);
        checks.same("without ties, the order", "2:0 0:0 1:0 3:0 4:0", order(x, 0));
        // 3 and 4 are one lump now, with the name 3
        checks.same("the order of phase 1", "2:0 0:0 1:0 3:0", order(x, 1));
        checks.same("the order of phase 2", "2:0 0:0 1:0", order(x, 2));
        checks.same("the order of phase 3", "2:0 0:0", order(x, 3));
        x = Webs.of(4, "ab2,ac2,ad1,cd1");
        checks.same("b ahead of c, though c is as near", "0:0 1:2 2:2 3:2", order(x, 0));
        // b and a are one lump then, with the name 0: c is tied to it by the weights of both
        x = Webs.of(3, "bc5,ab3,ac1");
        x.set(0, 2);
        checks.same("from c", "2:0 1:5 0:4", order(x, 0));
        checks.same("from c then", "2:0 0:6", order(x, 1));
    }

    private static void least() {
        checks.part("promise 18");
        PartedWebs x = paper();
        int[] due = {204, 4, 4, 204, 4};
        for (int what = 0; what < 5; what++) {
            checks.due("least(" + what + ")", due[what], x.least(what));
        }
        checks.due("least(5)", -2, x.least(5));
        for (int what : NO_WHATS) {
            checks.due("least(" + what + ")", -2, x.least(what));
        }
        // of several phases the first one counts, though its set is a greater number
        PartedWebs y = Webs.of(4, "ab2,bc2,cd2,ad2");
        checks.due("least(0) of a ring", 8, y.least(0));
        checks.due("least(1) of a ring", 4, y.least(1));
        checks.due("least(2) of a ring", 0, y.least(2));
        checks.due("least(3) of a ring", 2, y.least(3));
        checks.due("least(4) of a ring", 4, y.least(4));
        // the parting of a phase with the place 0 is told by all other places
        PartedWebs z = Webs.of(3, "bc9,ab1");
        z.set(0, 1);
        checks.due("least(0)", 6, z.least(0));
        checks.due("least(1)", 1, z.least(1));
        checks.due("least(2)", 0, z.least(2));
        z.set(0, 0);
        checks.due("least(0) from a", 6, z.least(0));
        checks.due("least(2) from a", 1, z.least(2));
    }

    private static void leastFair() {
        // b hangs by 1, c by 2; the halves {a, b, c} and {d, e, f} are tied by 9
        PartedWebs x = Webs.of(6, "ab1,ac2,de20,ef20,df20,ad9");
        int[] sets = {2, 6, 56, -5, -5};
        int[] weights = {1, 3, 9, -5, -5};
        for (int fair = 1; fair <= 5; fair++) {
            x.set(1, fair);
            checks.due("least(3) with " + fair, sets[fair - 1], x.least(3));
            checks.due("least(4) with " + fair, weights[fair - 1], x.least(4));
            checks.due("least(0) with " + fair, 2, x.least(0));
            checks.due("least(5) with " + fair, -2, x.least(5));
        }
        PartedWebs y = Webs.of(10, "ab9,bc9,cd9,de9,ae1,fg9,gh9,hi9,ij9,aj5,ef6");
        y.set(1, 5);
        checks.due("least(3) of ten places", 992, y.least(3));
        checks.due("least(4) of ten places", 11, y.least(4));
        y = Webs.of(5, "");
        y.set(1, 2);
        checks.due("least(3): the first of several", 6, y.least(3));
        y.set(1, 3);
        checks.due("least(3) of five places with 3", -5, y.least(3));
        // fair means both parts: {b, c, d} leaves a alone
        y = Webs.of(4, "bc9,cd9,bd9,ab1");
        y.set(1, 2);
        checks.due("least(3)", 8 + 4, y.least(3));
        checks.due("least(4)", 18, y.least(4));
    }

    private static void leastOf() {
        checks.part("promise 19");
        PartedWebs x = new PartedWebs();
        for (int rank = 0; rank < 7; rank++) {
            checks.due("leastOf(" + rank + ") without ties", 2 * rank + 2, x.leastOf(rank));
        }
        checks.due("leastOf(7)", -5, x.leastOf(7));
        checks.due("leastOf(MAX)", -5, x.leastOf(Integer.MAX_VALUE));
        checks.due("leastOf(-1)", -2, x.leastOf(-1));
        checks.due("leastOf(MIN)", -2, x.leastOf(Integer.MIN_VALUE));
        // a ring: each two of its ties, but not two with other ones between that part a from itself
        x = Webs.of(4, "ab2,bc2,cd2,ad2");
        x.set(1, 2);
        int[] due = {2, 4, 6, 8, 12, 14, -5};
        for (int rank = 0; rank < due.length; rank++) {
            checks.due("leastOf(" + rank + ") of a ring, fair or not", due[rank], x.leastOf(rank));
        }
        x = Webs.of(10, "");
        checks.due("leastOf(510) of ten places", 1022, x.leastOf(510));
        checks.due("leastOf(511) of ten places", -5, x.leastOf(511));
        x = Webs.of(2, "ab99");
        checks.due("leastOf(0) of two places", 2, x.leastOf(0));
        checks.due("leastOf(1) of two places", -5, x.leastOf(1));
        x = paper();
        checks.due("leastOf(0)", 204, x.leastOf(0));
        checks.due("leastOf(1)", -5, x.leastOf(1));
    }

    private static void between() {
        checks.part("promise 20");
        PartedWebs x = Webs.of(4, "ab5,bc3,cd7,ad1");
        int[][] sets = {{0, 14, 12, 12}, {14, 0, 12, 12}, {12, 12, 0, 8}, {12, 12, 8, 0}};
        int[][] weights = {{0, 6, 4, 4}, {6, 0, 4, 4}, {4, 4, 0, 8}, {4, 4, 8, 0}};
        for (int one = 0; one < 4; one++) {
            for (int other = 0; other < 4; other++) {
                checks.due("between(" + one + ", " + other + ", 0)", one == other ? -2 : sets[one][other],
                    x.between(one, other, 0));
                checks.due("between(" + one + ", " + other + ", 1)", one == other ? -2 : weights[one][other],
                    x.between(one, other, 1));
            }
        }
        checks.due("between(0, 1, 2)", -2, x.between(0, 1, 2));
        checks.due("between(0, 4, 2)", -1, x.between(0, 4, 2));
        checks.due("between(4, 4, 0)", -1, x.between(4, 4, 0));
        for (int what : NO_WHATS) {
            checks.due("between(0, 1, " + what + ")", -2, x.between(0, 1, what));
            checks.due("between(1, 1, " + what + ")", -2, x.between(1, 1, what));
        }
        for (int place : NO_PLACES) {
            checks.due("between(0, " + place + ", 0)", -1, x.between(0, place, 0));
            checks.due("between(" + place + ", 0, 5)", -1, x.between(place, 0, 5));
        }
        x.set(1, 5);
        checks.due("fair or not", 4, x.between(0, 2, 1));
        // of several the first one
        PartedWebs y = Webs.of(5, "");
        checks.due("between(0, 3, 0)", 8, y.between(0, 3, 0));
        checks.due("between(1, 3, 0)", 2, y.between(1, 3, 0));
        checks.due("between(4, 3, 0)", 8, y.between(4, 3, 0));
    }

    private static void parting() {
        checks.part("promise 21");
        PartedWebs x = Webs.of(4, "ab5,bc3,cd7,ad1,bd20");
        int[] due = {-2, -2, 28, -2, 10, -2, 32, -2, 28, -2, 16, -2, 24, -2, 6, -2, -2, -2, -2};
        for (int set = 0; set < due.length; set++) {
            checks.due("parting(" + set + ")", due[set], x.parting(set));
        }
        for (int set : new int[] {-1, -2, -16, -8, 30, 32, 1022, 1024, Integer.MIN_VALUE, Integer.MAX_VALUE,
            Integer.MAX_VALUE - 1, Integer.MIN_VALUE + 2, 1 << 30}) {
            checks.due("parting(" + set + ")", -2, x.parting(set));
        }
        x = Webs.of(10, "aj9,ij99,bc7");
        checks.due("parting(1022)", 9, x.parting(1022));
        checks.due("parting(512)", 108, x.parting(512));
        checks.due("parting(768)", 9, x.parting(768));
        checks.due("parting(1020)", 16, x.parting(1020));
        checks.due("parting(1024)", -2, x.parting(1024));
        checks.due("parting(1023)", -2, x.parting(1023));
        x.remove(9);
        checks.due("parting(512) of nine places", -2, x.parting(512));
        checks.due("parting(510) of nine places", 0, x.parting(510));
        x = Webs.of(10, "af99,ag99,ah99,ai99,aj99,bf99,bg99,bh99,bi99,bj99,cf99,cg99,ch99,ci99,cj99,"
            + "df99,dg99,dh99,di99,dj99,ef99,eg99,eh99,ei99,ej99");
        checks.due("parting(992)", 2475, x.parting(992));
    }

    private static void wouldBe() {
        checks.part("promise 22");
        PartedWebs x = Webs.of(4, "ab5,bc3,cd7,ad1");
        String before = Webs.all(x);
        checks.due("wouldBe(0, 3, 1)", 4, x.wouldBe(0, 3, 1));
        checks.due("wouldBe(0, 3, 0)", 3, x.wouldBe(0, 3, 0));
        checks.due("wouldBe(3, 0, 2)", 5, x.wouldBe(3, 0, 2));
        checks.due("wouldBe(0, 3, 99)", 8, x.wouldBe(0, 3, 99));
        checks.due("wouldBe(1, 2, 0)", 1, x.wouldBe(1, 2, 0));
        checks.due("wouldBe(0, 1, 0)", 1, x.wouldBe(0, 1, 0));
        checks.due("wouldBe(0, 2, 99)", 8, x.wouldBe(0, 2, 99));
        checks.due("wouldBe(0, 1, 100)", -2, x.wouldBe(0, 1, 100));
        checks.due("wouldBe(0, 1, -1)", -2, x.wouldBe(0, 1, -1));
        checks.due("wouldBe(0, 1, MIN)", -2, x.wouldBe(0, 1, Integer.MIN_VALUE));
        checks.due("wouldBe(0, 1, MAX)", -2, x.wouldBe(0, 1, Integer.MAX_VALUE));
        checks.due("wouldBe(2, 2, 5)", -2, x.wouldBe(2, 2, 5));
        checks.due("wouldBe(2, 2, 100)", -2, x.wouldBe(2, 2, 100));
        checks.due("wouldBe(4, 4, 100)", -1, x.wouldBe(4, 4, 100));
        for (int place : NO_PLACES) {
            checks.due("wouldBe(0, " + place + ", 1)", -1, x.wouldBe(0, place, 1));
            checks.due("wouldBe(" + place + ", 0, -1)", -1, x.wouldBe(place, 0, -1));
        }
        checks.same("nothing has changed", before, Webs.all(x));
        x = Webs.of(4, "ab5,cd7");
        checks.due("wouldBe(0, 1, 99) of two parts", 0, x.wouldBe(0, 1, 99));
        checks.due("wouldBe(1, 2, 3) that makes them one", 3, x.wouldBe(1, 2, 3));
        x = Webs.of(2, "ab4");
        checks.due("wouldBe(0, 1, 99)", 99, x.wouldBe(0, 1, 99));
        checks.due("wouldBe(0, 1, 0)", 0, x.wouldBe(0, 1, 0));
    }

    private static void tight() {
        checks.part("promise 23");
        PartedWebs x = paper();
        checks.due("tight(0)", 12, x.tight(0));
        checks.due("tight(1)", 56, x.tight(1));
        checks.due("tight(2)", -5, x.tight(2));
        checks.due("tight(MAX)", -5, x.tight(Integer.MAX_VALUE));
        checks.due("tight(-1)", -2, x.tight(-1));
        checks.due("tight(MIN)", -2, x.tight(Integer.MIN_VALUE));
        // the pairs are ordered by the lower place, then by the other one
        x = Webs.of(6, "ab90,bc90,ac90,de90,ef90,df90,af1,bd1,ae1,ce1,cd1");
        int[] due = {4, 5, 13, 23, 24, -5};
        for (int rank = 0; rank < due.length; rank++) {
            checks.due("tight(" + rank + ")", due[rank], x.tight(rank));
        }
        // two least partings of a way share no tie; a pair without a weight is not tight though both part it
        x = Webs.of(3, "ab2,bc2");
        checks.due("tight(0) of a way", -5, x.tight(0));
        x.tie(1, 2, 3);
        checks.due("tight(0) of a way with one least tie", 1, x.tight(0));
        checks.due("tight(1) of a way with one least tie", -5, x.tight(1));
        x = Webs.of(4, "ab1,bc1,cd1,ad1,ac1");
        // {b}: ab, bc; {d}: cd, ad
        checks.due("tight(0) of two least partings", -5, x.tight(0));
        x = Webs.of(2, "ab1");
        checks.due("tight(0) of two places", 1, x.tight(0));
        checks.due("tight(0) without ties", -5, Webs.of(2, "").tight(0));
    }

    private static void count() {
        checks.part("promise 24");
        PartedWebs x = paper();
        x.set(1, 3);
        Webs.type(x, "ab1,c");
        int[] due = {8, 12, 29, 1, 2, 1, 1, 3, 91, 4, 5, -2};
        for (int what = 0; what < due.length; what++) {
            checks.due("count(" + what + ")", due[what], x.count(what));
        }
        for (int what : NO_WHATS) {
            checks.due("count(" + what + ")", -2, x.count(what));
        }
        int[] fair = {511, 501, 456, 336, 126};
        x = Webs.of(10, "");
        for (int least = 1; least <= 5; least++) {
            x.set(1, least);
            checks.due("count(8) of ten places with " + least, fair[least - 1], x.count(8));
        }
        checks.due("count(3) of ten places", 511, x.count(3));
        x = new PartedWebs();
        int[] fresh = {4, 0, 0, 7, 0, 4, 0, 1, 7, 0, 0};
        for (int what = 0; what < fresh.length; what++) {
            checks.due("count(" + what + ") of a new one", fresh[what], x.count(what));
        }
        x.set(1, 2);
        checks.due("count(8) of four places with 2", 3, x.count(8));
        x.set(1, 3);
        checks.due("count(8) of four places with 3", 0, x.count(8));
        x = Webs.of(4, "ab99,ac99,ad99,bc99,bd99,cd99");
        checks.due("count(2)", 594, x.count(2));
        checks.due("count(1)", 6, x.count(1));
        checks.due("count(3)", 4, x.count(3));
    }

    private static void countOfParts() {
        PartedWebs x = Webs.of(10, "aj1,dj99,de5,bc1,ci2");
        checks.due("count(5)", 5, x.count(5));
        x.tie(5, 6, 1);
        checks.due("count(5)", 4, x.count(5));
        x.tie(4, 6, 1);
        checks.due("count(5)", 3, x.count(5));
        x.tie(7, 8, 1);
        checks.due("count(5)", 2, x.count(5));
        x.tie(0, 1, 99);
        checks.due("count(5)", 1, x.count(5));
        checks.due("count(5) of ten parts", 10, Webs.of(10, "").count(5));
    }

    /** Each answer does not rest on what was asked before. */
    private static void askedFirst() {
        checks.part("promises 15 to 24 asked first");
        checks.due("place(5, 3)", 1, paper().place(5, 3));
        checks.due("place(5, 4)", 5, paper().place(5, 4));
        checks.due("place(4, 5)", 5, paper().place(4, 5));
        checks.due("phase(4, 0)", 204, paper().phase(4, 0));
        checks.due("phase(4, 1)", 4, paper().phase(4, 1));
        checks.due("phase(4, 2)", 2, paper().phase(4, 2));
        checks.due("phase(4, 3)", 5, paper().phase(4, 3));
        checks.due("phase(4, 4)", 236, paper().phase(4, 4));
        checks.due("swallowed(3, 4, false)", 3, paper().swallowed(3, 4, false));
        checks.due("swallowed(3, 4, true)", 7, paper().swallowed(3, 4, true));
        checks.due("least(0)", 204, paper().least(0));
        checks.due("least(1)", 4, paper().least(1));
        checks.due("least(2)", 4, paper().least(2));
        checks.due("least(3)", 204, paper().least(3));
        checks.due("least(4)", 4, paper().least(4));
        checks.due("leastOf(0)", 204, paper().leastOf(0));
        checks.due("between(0, 7, 0)", 204, paper().between(0, 7, 0));
        checks.due("between(0, 7, 1)", 4, paper().between(0, 7, 1));
        checks.due("parting(204)", 4, paper().parting(204));
        checks.due("wouldBe(1, 2, 0)", 1, paper().wouldBe(1, 2, 0));
        checks.due("tight(1)", 56, paper().tight(1));
        checks.due("count(3)", 1, paper().count(3));
        checks.due("count(4)", 2, paper().count(4));
        checks.due("count(8)", 127, paper().count(8));
        checks.due("strengthen()", 12, paper().strengthen());
    }

    /** Nor does it rest on the web that was there before. */
    private static void askedAfterAChange() {
        PartedWebs x = paper();
        checks.due("least(1)", 4, x.least(1));
        checks.due("count(3)", 1, x.count(3));
        x.tie(5, 6, 2);
        checks.due("least(1) after tie(5, 6, 2)", 5, x.least(1));
        checks.due("leastOf(0) after it", 128, x.leastOf(0));
        x.undo();
        checks.due("leastOf(0) after undo()", 204, x.leastOf(0));
        checks.due("least(2) after undo()", 4, x.least(2));
        x.set(0, 7);
        checks.due("swallowed(0, 0, false) from h", 7, x.swallowed(0, 0, false));
        checks.due("leastOf(0) from h", 204, x.leastOf(0));
        x.remove(7);
        checks.due("parting(128) after remove(7)", -2, x.parting(128));
        checks.due("phase(6, 0) after remove(7)", -1, x.phase(6, 0));
        checks.due("count(8) after remove(7)", 63, x.count(8));
        x.grow();
        checks.due("least(0) after grow()", 128, x.least(0));
        checks.due("leastOf(1) after grow()", -5, x.leastOf(1));
    }

    private static void nothingIsChanged() {
        checks.part("promises 14 to 24");
        PartedWebs x = paper();
        Webs.type(x, "ab1");
        String before = Webs.all(x);
        for (int what = -1; what <= 11; what++) {
            x.weight(0, what);
            x.place(3, what);
            x.phase(1, what);
            x.swallowed(1, what, true);
            x.least(what);
            x.leastOf(what);
            x.between(1, 2, what);
            x.parting(what);
            x.wouldBe(1, 2, what);
            x.tight(what);
            x.count(what);
        }
        checks.same("after all that tells", before, Webs.all(x));
    }
}
