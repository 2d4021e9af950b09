/** Compares answers with those that are due, and counts the wrong ones of a test. */
final class Checks {
    private final String test;
    private int made = 0;
    private int wrong = 0;
    private String part = "";

    Checks(String test) {
        this.test = test;
    }

    /** Names the part of the test that comes now, such as a promise. */
    void part(String name) {
        part = name;
    }

    void due(String call, long want, long got) {
        made++;
        if (got != want) {
            tell(call + " answered " + got + ", due is " + want);
        }
    }

    void same(String what, String want, String got) {
        made++;
        if (!got.equals(want)) {
            tell(what + " is\n    " + got + "\n  due is\n    " + want);
        }
    }

    void holds(String what, boolean true_) {
        made++;
        if (!true_) {
            tell(what + " does not hold");
        }
    }

    int made() {
        return made;
    }

    int wrong() {
        return wrong;
    }

    private void tell(String message) {
        wrong++;
        // one fault can spoil thousands of answers
        if (wrong <= 40) {
            System.out.println(test + ", " + part + ": " + message);
        }
    }

    void end() {
        System.out.println("   " + test + ": " + made + " checks, " + wrong + " wrong");
        if (wrong != 0) {
            System.exit(1);
        }
    }
}
