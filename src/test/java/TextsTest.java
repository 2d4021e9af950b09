/** Promises 6, 9 and 10: the text, its faults and its ties. */
public final class TextsTest {
    private static final Checks checks = new Checks("TextsTest");

    public static void main(String[] args) {
        type();
        clearText();
        faults();
        everyFirstAndSecondLetter();
        everyWeight();
        everySign();
        checks.end();
    }

    private static void type() {
        checks.part("promise 9");
        PartedWebs x = new PartedWebs();
        x.tie(0, 1, 5);
        for (int length = 1; length <= 60; length++) {
            checks.due("type", length, x.type("ab1,".charAt((length - 1) % 4)));
            checks.due("count(10)", length, x.count(10));
        }
        String before = Webs.all(x);
        checks.due("type behind 60", -3, x.type('1'));
        checks.due("type behind 60", -3, x.type('\0'));
        checks.same("after FULL", before, Webs.all(x));
        checks.due("typing is no act", 1, x.count(9));
        checks.due("the text is what was typed", -160, x.tieAll());
        for (int sign : new int[] {0, 10, 32, 127, 128, 255, 256, 256 + 'a', 0x100 * 97, 0xffff}) {
            x.clearText();
            checks.due("type of sign " + sign, 1, x.type((char) sign));
            checks.due("tieAll() of sign " + sign, -100, x.tieAll());
        }
    }

    private static void clearText() {
        checks.part("promise 10");
        PartedWebs x = new PartedWebs();
        checks.due("clearText() of the empty text", 0, x.clearText());
        Webs.type(x, "ab17");
        x.tie(0, 1, 5);
        checks.due("clearText()", 4, x.clearText());
        checks.same("after it", "4 start 0 fair 1: ab5 history 1 text 0", Webs.all(x));
        checks.due("clearText() again", 0, x.clearText());
        checks.due("tieAll()", -100, x.tieAll());
        checks.due("type", 1, x.type('b'));
        checks.due("tieAll()", -101, x.tieAll());
        for (int i = 0; i < 70; i++) {
            x.type('c');
        }
        checks.due("clearText() of a full text", 60, x.clearText());
        Webs.type(x, "cd8");
        checks.due("nothing of the old text is left", 1, x.tieAll());
        checks.due("undo()", 1, x.undo());
        checks.due("undo() does not touch the text", 3, x.count(10));
        checks.due("tieAll() of it", 1, x.tieAll());
    }

    private static void faults() {
        checks.part("the fault of the text (promise 6)");
        Object[][] cases = {
            {"", 0}, {"a", 1}, {"ab", 2}, {"ab1,", 4}, {"ab1,c", 5}, {"ab1,cd", 6}, {"ab12,", 5}, {"ab0,", 4},
            {"j", 0}, {"k", 0}, {"A", 0}, {"1", 0}, {",", 0}, {" ab1", 0}, {"`b1", 0}, {"jj1", 0},
            {"aa1", 1}, {"ba1", 1}, {"ak1", 1}, {"aB1", 1}, {"a1", 1}, {"a,", 1}, {"ii1", 1}, {"ih1", 1}, {"ja1", 0},
            {"abc", 2}, {"ab,", 2}, {"ab-1", 2}, {"ab/", 2}, {"ab:", 2}, {"ab 1", 2},
            {"ab00", 3}, {"ab01", 3}, {"ab09", 3}, {"ab0c", 3}, {"ab0 ", 3},
            {"ab1c", 3}, {"ab1/", 3}, {"ab1:", 3}, {"ab1;", 3}, {"ab9b", 3},
            {"ab100", 4}, {"ab999", 4}, {"ab12c", 4}, {"ab12 ", 4}, {"ab10a", 4},
            {"ab1,,", 4}, {"ab1,1", 4}, {"ab1,j", 4}, {"ab1,aa", 5}, {"ab1,cb1", 5}, {"ab1,cd05", 7},
            {"ab12,cd123", 9}, {"ab99,bc99,cd0,,", 14}, {"ab1\n", 3}, {"ab1,bc2,cd3x", 11},
        };
        for (Object[] textAndFault : cases) {
            PartedWebs x = new PartedWebs();
            x.tie(0, 1, 50);
            Webs.type(x, (String) textAndFault[0]);
            String before = Webs.all(x);
            checks.due("tieAll() of '" + textAndFault[0] + "'", -100 - (Integer) textAndFault[1], x.tieAll());
            checks.same("after '" + textAndFault[0] + "'", before, Webs.all(x));
        }
        PartedWebs x = new PartedWebs();
        Webs.type(x, "ab1,bc2,cd3,ab1,bc2,cd3,ab1,bc2,cd3,ab1,bc2,cd3,ab1,bc2,cd33");
        checks.due("tieAll() of 60 characters", 15, x.tieAll());
        Webs.retype(x, "ab1,bc2,cd3,ab1,bc2,cd3,ab1,bc2,cd3,ab1,bc2,cd3,ab1,bc2,cd3c");
        checks.due("tieAll() with a fault in the last one", -159, x.tieAll());
        Webs.retype(x, "ab1,bc2,cd3,ab1,bc2,cd3,ab1,bc2,cd3,ab1,bc2,cd3,ab1,bc2,c,cd");
        checks.due("tieAll() with a fault near the end", -157, x.tieAll());
        Webs.retype(x, "ab11,bc2,cd3,ab1,bc2,cd3,ab1,bc2,cd3,ab1,bc2,cd3,ab1,bc2,cd3");
        checks.due("tieAll() of 60 characters", 15, x.tieAll());
        Webs.retype(x, "ab11,bc22,cd3,ab1,bc2,cd3,ab1,bc2,cd3,ab1,bc2,cd3,ab1,bc2,cd3");
        checks.due("tieAll() of a text that ends in the last tie", -160, x.tieAll());
    }

    private static void everyFirstAndSecondLetter() {
        PartedWebs x = Webs.of(10, "");
        for (char first = 'a'; first <= 'j'; first++) {
            PartedWebs y = Webs.of(10, "");
            PartedWebs small = new PartedWebs();
            for (char second = 'a'; second <= 'k'; second++) {
                Webs.retype(y, "" + first + second + 7);
                Webs.retype(small, "" + first + second + 7);
                int fault = first == 'j' ? -100 : second <= first || second > 'j' ? -101 : 1;
                checks.due("tieAll() of " + first + second + 7, fault, y.tieAll());
                int there = fault == 1 && second > 'd' ? -1 : fault;
                checks.due("tieAll() of " + first + second + 7 + " in four places", there, small.tieAll());
                if (fault == 1) {
                    checks.due("weight", 7, y.weight(first - 'a', second - 'a'));
                }
            }
            checks.due("count(1)", 'j' - first, y.count(1));
        }
        checks.due("count(1) of an untouched one", 0, x.count(1));
    }

    private static void everyWeight() {
        for (int half = 0; half < 2; half++) {
            PartedWebs x = Webs.of(2, "");
            for (int weight = half * 50; weight < half * 50 + 50; weight++) {
                Webs.retype(x, "ab" + weight);
                checks.due("tieAll() of ab" + weight, 1, x.tieAll());
                checks.due("weight(0, 1)", weight, x.weight(0, 1));
            }
        }
    }

    /** At each place of a text, which of the signs are allowed there. */
    private static void everySign() {
        String[] ahead = {"", "c", "cd", "cd1", "cd0", "cd12", "cd1,"};
        String[] allowed = {"abcdefghi", "defghij", "0123456789", "0123456789,", ",", ",", "abcdefghi"};
        boolean[] isWhole = {false, false, false, true, true, true, false};
        for (int i = 0; i < ahead.length; i++) {
            for (int sign = 0; sign < 300; sign++) {
                if (allowed[i].indexOf((char) sign) < 0) {
                    PartedWebs x = new PartedWebs();
                    Webs.type(x, ahead[i] + (char) sign);
                    checks.due("tieAll() of '" + ahead[i] + "' and sign " + sign, -100 - ahead[i].length(), x.tieAll());
                }
            }
            for (int at = 0; at < allowed[i].length(); at++) {
                PartedWebs x = Webs.of(10, "");
                String text = ahead[i] + allowed[i].charAt(at);
                Webs.type(x, text);
                boolean ends = isWhole[i] && allowed[i].charAt(at) != ',' || i == 2;
                checks.due("tieAll() of '" + text + "'", ends ? 1 : -100 - text.length(), x.tieAll());
            }
        }
    }
}
