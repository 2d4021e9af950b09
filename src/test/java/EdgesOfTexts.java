/** Sentences of promises 6, 9 and 10, and of TEXTS, that name a boundary case. */
final class EdgesOfTexts {
    /** Fifteen ties of four characters with the signs between them: 59 characters. */
    private static final String FIFTEEN = "ab1,bc2,cd3,ad4,ac5,bd6,ab7,bc8,cd9,ad1,ac2,bd3,ab4,bc5,cd6";

    private EdgesOfTexts() {
    }

    static void addTo(Edges edges) {
        type(edges);
        clearText(edges);
        ties(edges);
        letters(edges);
        weights(edges);
        faults(edges);
        tieAll(edges);
        refusedTieAll(edges);
    }

    /** Asks tieAll() of ten places for a text. */
    private static void due(Checks checks, String text, int want) {
        PartedWebs x = Webs.of(10, "");
        Webs.type(x, text);
        checks.due("tieAll() of '" + text + "'", want, x.tieAll());
    }

    private static void fault(Checks checks, String text, int fault) {
        due(checks, text, -100 - fault);
    }

    private static void type(Edges edges) {
        edges.add("TEXTS", "There is a text of at most 60 characters, empty at first.",
            "the length at first and at most",
            checks -> {
                PartedWebs x = new PartedWebs();
                checks.due("count(10) at first", 0, x.count(10));
                for (int i = 0; i < 70; i++) {
                    x.type('a');
                }
                checks.due("count(10) at most", 60, x.count(10));
            });
        edges.add("promise 9", "any character",
            "the first and the last one, and those that look like a digit when they are cut short",
            checks -> {
                PartedWebs x = new PartedWebs();
                int[] signs = {0, 10, 32, 97, 127, 128, 255, 256, 256 + '1', 256 + 'a', 0x3000 + '1', 0xd800, 0xdfff,
                    0xff00 + '1', 0xfffe, 0xffff};
                for (int at = 0; at < signs.length; at++) {
                    checks.due("type of the sign " + signs[at], at + 1, x.type((char) signs[at]));
                }
                checks.due("count(10)", signs.length, x.count(10));
                for (int sign : signs) {
                    fault(checks, "ab" + (char) sign, 2);
                }
            });
        edges.add("promise 9", "Types a character behind the text.",
            "the first one, and the last for which there is room",
            checks -> {
                PartedWebs x = new PartedWebs();
                Webs.type(x, FIFTEEN + "7");
                checks.due("tieAll()", 15, x.tieAll());
                checks.due("weight(0, 3), of the tenth tie", 1, x.weight(0, 3));
                checks.due("weight(2, 3), of the last tie", 67, x.weight(2, 3));
            });
        edges.add("promise 9", "Returns the length of the text then", "1 to 60", checks -> {
            PartedWebs x = new PartedWebs();
            for (int length = 1; length <= 60; length++) {
                checks.due("type", length, x.type(','));
            }
        });
        edges.add("promise 9", "FULL if it has 60 characters.", "59 and 60 characters", checks -> {
            PartedWebs x = new PartedWebs();
            Webs.type(x, FIFTEEN);
            checks.due("type behind 59", 60, x.type('7'));
            checks.due("type behind 60", Edges.FULL, x.type('8'));
            checks.due("type behind 60 again", Edges.FULL, x.type(','));
            checks.due("tieAll() of the 60", 15, x.tieAll());
            checks.due("weight(2, 3), of the last tie", 67, x.weight(2, 3));
            Edges.refused(checks, "type behind 60", Edges.FULL, EdgesOfTexts::fullText, y -> y.type('8'));
        });
    }

    private static PartedWebs fullText() {
        PartedWebs x = Webs.laden(4, "ab5");
        Webs.retype(x, FIFTEEN + "7");
        return x;
    }

    private static void clearText(Edges edges) {
        edges.add("promise 10", "Empties the text.", "an empty one and a full one", checks -> {
            PartedWebs x = fullText();
            x.clearText();
            checks.due("count(10)", 0, x.count(10));
            checks.due("tieAll()", -100, x.tieAll());
            x.clearText();
            checks.due("count(10) again", 0, x.count(10));
            checks.due("type", 1, x.type('c'));
            Webs.type(x, "d8");
            checks.due("tieAll()", 1, x.tieAll());
            checks.due("weight(2, 3)", 8, x.weight(2, 3));
        });
        edges.add("promise 10", "Returns the length that it had.", "0, 1, 59 and 60", checks -> {
            PartedWebs x = new PartedWebs();
            checks.due("clearText() of the empty text", 0, x.clearText());
            x.type('a');
            checks.due("clearText() of one character", 1, x.clearText());
            Webs.type(x, FIFTEEN);
            checks.due("clearText() of 59", 59, x.clearText());
            Webs.type(x, FIFTEEN + FIFTEEN);
            checks.due("clearText() of a full text", 60, x.clearText());
            checks.due("clearText() again", 0, x.clearText());
        });
    }

    private static void ties(Edges edges) {
        edges.add("TEXTS", "A text of ties is one or more ties", "none, one, two, and as many as there is room for",
            checks -> {
                fault(checks, "", 0);
                due(checks, "ab1", 1);
                due(checks, "ab1,cd2", 2);
                due(checks, FIFTEEN, 15);
                due(checks, FIFTEEN + "7", 15);
            });
        edges.add("TEXTS", "with \",\" between two",
            "none between, two, one ahead, one behind, another sign", checks -> {
            fault(checks, "ab1cd2", 3);
            fault(checks, "ab12cd2", 4);
            fault(checks, "ab0cd2", 3);
            fault(checks, "ab1,,cd2", 4);
            fault(checks, ",ab1", 0);
            fault(checks, "ab1,", 4);
            fault(checks, "ab1;cd2", 3);
            fault(checks, "ab1-cd2", 3);
            fault(checks, "ab1+cd2", 3);
            fault(checks, "ab1, cd2", 4);
            fault(checks, FIFTEEN + ",", 60);
        });
    }

    private static void letters(Edges edges) {
        edges.add("TEXTS", "two letters from a to j", "the letters at the ends, and their neighbours", checks -> {
            due(checks, "ab1", 1);
            due(checks, "aj1", 1);
            due(checks, "ij1", 1);
            fault(checks, "`b1", 0);
            fault(checks, "kl1", 0);
            fault(checks, "ak1", 1);
            fault(checks, "ik1", 1);
            fault(checks, "a`1", 1);
            fault(checks, "Ab1", 0);
            fault(checks, "aB1", 1);
            fault(checks, "a1", 1);
            fault(checks, "1", 0);
            fault(checks, "a,", 1);
            fault(checks, "abc1", 2);
            fault(checks, (char) (256 + 'a') + "b1", 0);
            fault(checks, "a" + (char) (256 + 'b') + "1", 1);
        });
        edges.add("TEXTS", "that rise", "the same letter, the one below, the one above", checks -> {
            for (char letter = 'b'; letter <= 'i'; letter++) {
                due(checks, "" + letter + (char) (letter + 1) + "1", 1);
                fault(checks, "" + letter + letter + "1", 1);
                fault(checks, "" + letter + (char) (letter - 1) + "1", 1);
            }
            fault(checks, "aa1", 1);
            fault(checks, "ia1", 1);
            fault(checks, "ab1,ba1", 5);
        });
        edges.add("TEXTS", "(so the first one is not j)", "j at once is the fault, not what follows", checks -> {
            fault(checks, "j", 0);
            fault(checks, "ja1", 0);
            fault(checks, "jj1", 0);
            fault(checks, "jk1", 0);
            fault(checks, "ab1,j", 4);
            fault(checks, "i", 1);
        });
    }

    private static void weights(Edges edges) {
        edges.add("TEXTS", "a weight (0 to 99", "each of them, and what is longer or no digit", checks -> {
            for (int weight = 0; weight <= 99; weight++) {
                PartedWebs x = new PartedWebs();
                x.tie(0, 1, 50);
                Webs.type(x, "ab" + weight);
                checks.due("tieAll() of ab" + weight, 1, x.tieAll());
                checks.due("weight(0, 1)", weight, x.weight(0, 1));
            }
            fault(checks, "ab100", 4);
            fault(checks, "ab999", 4);
            fault(checks, "ab/", 2);
            fault(checks, "ab:", 2);
            fault(checks, "ab1/", 3);
            fault(checks, "ab1:", 3);
            fault(checks, "ab-1", 2);
            fault(checks, "ab,", 2);
            fault(checks, "ab" + (char) (256 + '1'), 2);
            fault(checks, "ab1" + (char) (256 + '1'), 3);
        });
        edges.add("TEXTS", "without a zero in front unless it is the single digit 0", "0, 00, 01, 09, 10", checks -> {
            due(checks, "ab0", 1);
            due(checks, "ab0,cd0", 2);
            due(checks, "ab10", 1);
            due(checks, "ab90", 1);
            fault(checks, "ab00", 3);
            fault(checks, "ab01", 3);
            fault(checks, "ab09", 3);
            fault(checks, "ab12,cd05", 8);
        });
    }

    private static void faults(Edges edges) {
        edges.add("TEXTS", "The fault of the text is the index, from 0, of the first character that is not allowed",
            "at the first and at the last index, and the first of several", checks -> {
                fault(checks, "x", 0);
                fault(checks, "xyz", 0);
                fault(checks, FIFTEEN + "x", 59);
                fault(checks, "ab1,bx2,cd3x", 5);
                fault(checks, "abx,ba1", 2);
            });
        edges.add("TEXTS", "or the length of the text if it ends too early", "behind each part of a tie", checks -> {
            fault(checks, "a", 1);
            fault(checks, "ab", 2);
            due(checks, "ab1", 1);
            fault(checks, "ab1,", 4);
            fault(checks, "ab12,c", 6);
            fault(checks, "ab12,cd", 7);
            fault(checks, FIFTEEN + ",", 60);
        });
        edges.add("TEXTS", "(the empty text does)", "one that never held a sign, and one that was emptied", checks -> {
            fault(checks, "", 0);
            PartedWebs x = new PartedWebs();
            Webs.type(x, "ab1");
            x.clearText();
            checks.due("tieAll() of the emptied text", -100, x.tieAll());
        });
        edges.add("TEXTS", "(Which places there are is no matter of faults.)", "letters of places that are not there",
            checks -> {
                PartedWebs x = Webs.of(2, "");
                Webs.type(x, "ij5");
                checks.due("tieAll() of ij5 in two places", Edges.UNKNOWN, x.tieAll());
                x.type('x');
                checks.due("tieAll() of ij5x in two places", -103, x.tieAll());
            });
    }

    private static void tieAll(Edges edges) {
        edges.add("promise 6", "the text, which stays", "after the act, and after undo()", checks -> {
            PartedWebs x = fullText();
            x.tieAll();
            checks.due("count(10)", 60, x.count(10));
            x.undo();
            checks.due("count(10) after undo()", 60, x.count(10));
            checks.due("tieAll() again", 15, x.tieAll());
        });
        edges.add("promise 6", "one after the other", "one pair more than once: the last one counts", checks -> {
            PartedWebs x = Webs.of(4, "ab50");
            Webs.type(x, "ab5,cd1,ab99,ab0,cd99");
            checks.due("tieAll()", 5, x.tieAll());
            checks.same("after it", "4 start 0 fair 1: cd99", Webs.state(x));
        });
        edges.add("promise 6", "all of them, or none.", "a fault or a missing place in the last of fifteen", checks -> {
            PartedWebs x = Webs.of(4, "ab50");
            Webs.type(x, FIFTEEN);
            x.tieAll();
            checks.same("all of them", "4 start 0 fair 1: ab4 ac2 ad1 bc5 bd3 cd6", Webs.state(x));
            for (String last : new String[] {"aa6", "ae6", "cd"}) {
                PartedWebs y = Webs.of(4, "ab50");
                Webs.type(y, FIFTEEN.substring(0, 56) + last);
                checks.holds("an error of '" + last + "'", y.tieAll() < 0);
                checks.same("none of them", "4 start 0 fair 1: ab50", Webs.state(y));
            }
        });
        edges.add("promise 6", "This is one act.",
            "of one tie, of fifteen, and of those that change nothing", checks -> {
            PartedWebs x = new PartedWebs();
            Webs.type(x, "ab5");
            x.tieAll();
            checks.due("count(9) after one tie", 1, x.count(9));
            checks.due("tieAll() of the same tie", 1, x.tieAll());
            checks.due("count(9) after the same tie", 2, x.count(9));
            x.undo();
            Webs.retype(x, FIFTEEN);
            x.tieAll();
            checks.due("count(9) after fifteen", 2, x.count(9));
            x.tieAll();
            checks.due("count(9) after the same fifteen", 3, x.count(9));
            x.undo();
            checks.same("after undo()", "4 start 0 fair 1: ab4 ac2 ad1 bc5 bd3 cd6", Webs.state(x));
            x.undo();
            checks.same("after undo() of fifteen", "4 start 0 fair 1: ab5", Webs.state(x));
        });
        edges.add("promise 6", "Returns how many ties the text has",
            "1 and 15, pairs that are there twice, weights of 0",
            checks -> {
                due(checks, "ab1", 1);
                due(checks, "ab0", 1);
                due(checks, "ab1,ab1", 2);
                due(checks, "ab0,ab0,cd12", 3);
                due(checks, FIFTEEN, 15);
            });
    }

    private static void refusedTieAll(Edges edges) {
        edges.add("promise 6", "-100 minus the fault of the text if it has one (which is an error)",
            "faults 0 and 60; it changes nothing", checks -> {
                String[] texts = {"", "x", "ab1,", FIFTEEN + "x", FIFTEEN + ","};
                int[] faults = {0, 0, 4, 59, 60};
                for (int i = 0; i < texts.length; i++) {
                    String text = texts[i];
                    Edges.refused(checks, "tieAll() of '" + text + "'", -100 - faults[i], () -> withText(text),
                        x -> x.tieAll());
                }
            });
        edges.add("promise 6", "UNKNOWN if any place of it is not there.",
            "the first one behind the last place", checks -> {
            for (String text : new String[] {"ae1", "ab1,de2", "de2,ab1", "ij9", FIFTEEN.substring(0, 56) + "ce1"}) {
                Edges.refused(checks, "tieAll() of '" + text + "' in four places", Edges.UNKNOWN,
                    () -> withText(text), x -> x.tieAll());
            }
            PartedWebs x = Webs.of(9, "");
            Webs.type(x, "aj1");
            checks.due("tieAll() of aj1 in nine places", Edges.UNKNOWN, x.tieAll());
            x.grow();
            checks.due("tieAll() of aj1 in ten", 1, x.tieAll());
            x.remove(0);
            checks.due("tieAll() of aj1 in nine again", Edges.UNKNOWN, x.tieAll());
        });
        edges.add("promise 6", "(which is an error); UNKNOWN if any place of it is not there.",
            "the order, when both apply", checks -> {
                PartedWebs x = new PartedWebs();
                Webs.type(x, "de3,ab1,");
                checks.due("tieAll() of 'de3,ab1,'", -108, x.tieAll());
                Webs.retype(x, "ij");
                checks.due("tieAll() of 'ij'", -102, x.tieAll());
            });
    }

    private static PartedWebs withText(String text) {
        PartedWebs x = Webs.laden(4, "ab5");
        Webs.retype(x, text);
        return x;
    }
}
