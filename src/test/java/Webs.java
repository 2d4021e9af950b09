/** Makes webs for tests and looks at their states. */
final class Webs {
    private Webs() {
    }

    /** A web of so many places with the ties of a text, "ab5,bc7". */
    static PartedWebs of(int places, String ties) {
        PartedWebs x = new PartedWebs();
        resize(x, places);
        if (!ties.isEmpty()) {
            for (String tie : ties.split(",")) {
                x.tie(tie.charAt(0) - 'a', tie.charAt(1) - 'a', Integer.parseInt(tie.substring(2)));
            }
        }
        return x;
    }

    static void resize(PartedWebs x, int places) {
        for (int i = x.count(0); i < places; i++) {
            x.grow();
        }
        for (int i = x.count(0); i > places; i--) {
            x.remove(i - 1);
        }
    }

    static int type(PartedWebs x, String text) {
        int length = x.count(10);
        for (int i = 0; i < text.length(); i++) {
            length = x.type(text.charAt(i));
        }
        return length;
    }

    /** Types a text in place of the one that is there. */
    static void retype(PartedWebs x, String text) {
        x.clearText();
        type(x, text);
    }

    /** The whole state: the places, the settings, and the ties that are there. */
    static String state(PartedWebs x) {
        StringBuilder told = new StringBuilder();
        int places = x.count(0);
        told.append(places).append(" start ").append(x.count(6)).append(" fair ").append(x.count(7)).append(':');
        for (int one = 0; one < places; one++) {
            for (int other = one + 1; other < places; other++) {
                int weight = x.weight(one, other);
                if (weight != 0) {
                    told.append(' ').append((char) ('a' + one)).append((char) ('a' + other)).append(weight);
                }
            }
        }
        return told.toString();
    }

    /** The state, and how many states and characters are kept besides: what an error must not change. */
    static String all(PartedWebs x) {
        return state(x) + " history " + x.count(9) + " text " + x.count(10);
    }

    /** A web with a full history, a snapshot and a text besides, each of them with a state of its own. */
    static PartedWebs laden(int places, String ties) {
        PartedWebs x = of(places, ties);
        x.set(0, 1);
        x.keep();
        x.set(0, 0);
        x.set(1, 5);
        x.set(1, 4);
        x.set(1, 3);
        x.set(1, 2);
        x.set(1, 1);
        type(x, "ab98,ab97");
        return x;
    }

    /** All that an object holds, its history, snapshot and text too; the object is used up by it. */
    static String whole(PartedWebs x) {
        StringBuilder told = new StringBuilder(all(x));
        for (int left = x.count(9); left > 0; left--) {
            told.append("; undo ").append(x.undo()).append(": ").append(state(x));
        }
        told.append("; restore ").append(x.restore()).append(": ").append(state(x));
        told.append("; tieAll ").append(x.tieAll()).append(": ").append(state(x));
        return told.toString();
    }
}
