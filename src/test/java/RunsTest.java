/** All promises: runs of up to 512 calls with any arguments, each answer compared with the model's. */
public final class RunsTest {
    private static final Checks checks = new Checks("RunsTest");
    private static final int RUNS = 600;
    /** The longest text takes some 90 calls: behind so many calls a run goes on for no more than 512. */
    private static final int CALLS = 420;
    private static final int[] EXTREMES = {Integer.MIN_VALUE, Integer.MAX_VALUE, -1, -2, 10, 11, 31, 32, 33, 64, 99,
        100, 101, 128, 256, 1000, 1022, 1023, 1024, 1 << 30, -(1 << 30), 0x80000001, 0x7ffffffe};

    private final PartedWebs x = new PartedWebs();
    private final Model model = new Model();
    private final boolean heavy;
    private final int shrinking;
    private final int run;
    private final StringBuilder told = new StringBuilder();
    private long seed;
    private int calls = 0;

    private RunsTest(int run) {
        this.run = run;
        seed = run * 2654435761L + 12345;
        heavy = below(3) == 0;
        shrinking = below(4);
    }

    public static void main(String[] args) {
        for (int run = 0; run < RUNS; run++) {
            new RunsTest(run).go();
        }
        checks.end();
    }

    /** The same numbers each time: a test that fails fails again. */
    private int below(int bound) {
        seed = seed * 6364136223846793005L + 1442695040888963407L;
        return (int) ((seed >>> 33) % bound);
    }

    private void go() {
        checks.part("run " + run);
        int before = checks.wrong();
        while (calls < CALLS) {
            int acts = below(12);
            for (int i = 0; i < acts && calls < CALLS; i++) {
                act();
            }
            int tells = below(40);
            for (int i = 0; i < tells && calls < CALLS; i++) {
                tell();
            }
        }
        while (calls < 512) {
            tell();
        }
        checks.due("the calls of the run", 512, calls);
        if (checks.wrong() > before && before < 5) {
            System.out.println("run " + run + " was:" + told);
        }
    }

    private void due(String call, int want, int got) {
        calls++;
        if (checks.wrong() == 0) {
            told.append(' ').append(call).append('=').append(got);
        }
        checks.due(call, want, got);
    }

    private int any() {
        return EXTREMES[below(EXTREMES.length)];
    }

    private int aPlace() {
        int places = model.count(0);
        return below(16) == 0 ? places : below(40) == 0 ? any() : below(places);
    }

    private int aWhat(int most) {
        return below(30) == 0 ? any() : below(20) == 0 ? most + 1 : below(most + 1);
    }

    private int aWeight() {
        if (below(20) == 0) {
            return any();
        }
        return heavy ? below(8) == 0 ? 95 + below(6) : below(100) : below(4);
    }

    private void act() {
        int kind = below(30);
        if (kind < 3) {
            due("grow()", model.grow(), x.grow());
        } else if (kind == 3 && below(4) <= shrinking) {
            int place = aPlace();
            due("remove(" + place + ")", model.remove(place), x.remove(place));
        } else if (kind == 4 && below(4) <= shrinking) {
            int one = aPlace();
            int other = aPlace();
            due("join(" + one + ", " + other + ")", model.join(one, other), x.join(one, other));
        } else if (kind < 15) {
            int one = aPlace();
            int other = aPlace();
            int weight = aWeight();
            due("tie(" + one + ", " + other + ", " + weight + ")", model.tie(one, other, weight),
                x.tie(one, other, weight));
        } else if (kind < 17) {
            text();
        } else if (kind < 20) {
            int which = aWhat(1);
            int value = which == 0 ? aPlace() : aWhat(5);
            due("set(" + which + ", " + value + ")", model.set(which, value), x.set(which, value));
        } else if (kind < 23) {
            due("strengthen()", model.strengthen(), x.strengthen());
        } else if (kind < 26) {
            due("undo()", model.undo(), x.undo());
        } else if (kind == 26) {
            due("keep()", model.keep(), x.keep());
        } else if (kind == 27) {
            due("restore()", model.restore(), x.restore());
        } else if (kind == 28) {
            due("tieAll()", model.tieAll(), x.tieAll());
        }
    }

    private void text() {
        if (below(5) != 0) {
            due("clearText()", model.clearText(), x.clearText());
        }
        int ties = 1 + below(below(6) == 0 ? 16 : 6);
        for (int tie = 0; tie < ties; tie++) {
            int places = below(4) == 0 ? 10 : model.count(0);
            int first = below(places - 1);
            int second = first + 1 + below(places - first - 1);
            if (tie > 0) {
                type(',');
            }
            type((char) ('a' + first));
            type((char) ('a' + second));
            int weight = heavy ? below(100) : below(4);
            if (weight >= 10) {
                type((char) ('0' + weight / 10));
            }
            type((char) ('0' + weight % 10));
        }
        if (below(3) == 0) {
            due("tieAll()", model.tieAll(), x.tieAll());
            type("0123456789,abcdefghijk".charAt(below(22)));
        }
        due("tieAll()", model.tieAll(), x.tieAll());
    }

    private void type(char sign) {
        int roll = below(300);
        char typed = roll == 0 ? (char) below(65536) : roll < 4 ? "0,jab kA-/:".charAt(below(11)) : sign;
        due("type(" + (int) typed + ")", model.type(typed), x.type(typed));
    }

    private void tell() {
        int one = aPlace();
        int other = aPlace();
        int rank = below(30) == 0 ? any() : below(12);
        switch (below(12)) {
            case 0:
                due("weight(" + one + ", " + other + ")", model.weight(one, other), x.weight(one, other));
                break;
            case 1:
                int about = aWhat(5);
                due("place(" + one + ", " + about + ")", model.place(one, about), x.place(one, about));
                break;
            case 2:
                int what = aWhat(5);
                due("phase(" + one + ", " + what + ")", model.phase(one, what), x.phase(one, what));
                break;
            case 3:
            case 4:
                boolean near = below(2) == 0;
                due("swallowed(" + one + ", " + rank + ", " + near + ")", model.swallowed(one, rank, near),
                    x.swallowed(one, rank, near));
                break;
            case 5:
                int of = aWhat(4);
                due("least(" + of + ")", model.least(of), x.least(of));
                break;
            case 6:
                due("leastOf(" + rank + ")", model.leastOf(rank), x.leastOf(rank));
                break;
            case 7:
                int tell = aWhat(1);
                due("between(" + one + ", " + other + ", " + tell + ")", model.between(one, other, tell),
                    x.between(one, other, tell));
                break;
            case 8:
                int set = below(10) == 0 ? any() : below(1 << model.count(0));
                due("parting(" + set + ")", model.parting(set), x.parting(set));
                break;
            case 9:
                int weight = aWeight();
                due("wouldBe(" + one + ", " + other + ", " + weight + ")", model.wouldBe(one, other, weight),
                    x.wouldBe(one, other, weight));
                break;
            case 10:
                due("tight(" + rank + ")", model.tight(rank), x.tight(rank));
                break;
            default:
                int count = aWhat(10);
                due("count(" + count + ")", model.count(count), x.count(count));
        }
    }
}
