/** Makes webs for tests and looks at their states. */
final class Webs {
    private Webs() {
    }

    /** A web of so many places with the ties of a text, "ab5,bc7". */
    static PartedWebs of(int places, String ties) {
        PartedWebs x = new PartedWebs();
        resize(x, places);
        if (!ties.isEmpty()) {
            for (String tie : ties.split(",")) {
                x.tie(tie.charAt(0) - 'a', tie.charAt(1) - 'a', Integer.parseInt(tie.substring(2)));
            }
        }
        return x;
    }

    static void resize(PartedWebs x, int places) {
        for (int i = x.count(0); i < places; i++) {
            x.grow();
        }
        for (int i = x.count(0); i > places; i--) {
            x.remove(i - 1);
        }
    }

    static int type(PartedWebs x, String text) {
        int length = x.count(10);
        for (int i = 0; i < text.length(); i++) {
            length = x.type(text.charAt(i));
        }
        return length;
    }

    /** Types a text in place of the one that is there. */
    static void retype(PartedWebs x, String text) {
        x.clearText();
        type(x, text);
    }

    /** The whole state: the places, the settings, and the ties that are there. */
    static String state(PartedWebs x) {
        StringBuilder told = new StringBuilder();
        int places = x.count(0);
        told.append(places).append(" start ").append(x.count(6)).append(" fair ").append(x.count(7)).append(':');
        for (int one = 0; one < places; one++) {
            for (int other = one + 1; other < places; other++) {
                int weight = x.weight(one, other);
                if (weight != 0) {
                    told.append(' ').append((char) ('a' + one)).append((char) ('a' + other)).append(weight);
                }
            }
        }
        return told.toString();
    }

    /** The state, and how many states and characters are kept besides: what an error must not change. */
    static String all(PartedWebs x) {
        return state(x) + " history " + x.count(9) + " text " + x.count(10);
    }
}
