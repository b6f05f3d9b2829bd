/** Counts the answers that are not the ones that are due. */
final class Checks {
    private static final int MOST_PRINTED_OF_A_TEST = 20;
    private String test = "";
    private int tests = 0;
    private int made = 0;
    private int madeBefore = 0;
    private int wrong = 0;
    private int printed = 0;

    /** What is looked at from here on belongs to the test of this name. */
    void begin(String name) {
        test = name + ": ";
        tests++;
        madeBefore = made;
        printed = 0;
    }

    void finish() {
        if (made == madeBefore) {
            holds("looks at an answer", false);
        }
        test = "";
    }

    void due(String call, long got, long want) {
        made++;
        if (got == want) {
            return;
        }
        wrong++;
        printed++;
        if (printed <= MOST_PRINTED_OF_A_TEST) {
            System.out.println(test + call + " answered " + got + ", due is " + want);
        }
    }

    void holds(String what, boolean isSo) {
        due(what, isSo ? 1 : 0, 1);
    }

    void end() {
        String in = tests == 0 ? "" : " in " + tests + " tests";
        System.out.println(made + " answers looked at" + in + ", " + wrong + " not as due");
        if (wrong != 0 || made == 0) {
            System.exit(1);
        }
    }
}
