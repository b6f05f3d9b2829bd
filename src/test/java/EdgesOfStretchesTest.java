/** The boundary cases of promises 14 to 19, the questions about all stretches of B, each in a test of its own. */
public final class EdgesOfStretchesTest extends Cases {
    private static final int[] BELOW_0 = {-1, -2, -4, LEAST + 1, LEAST};
    private static final String ZEROS_A = "0000000000";
    private static final String ZEROS_B = "00000000000000";
    private static final String ONES_B = "11111111111111";

    private static void nearest(String a, String b, int want) {
        checks.due("nearest() of " + a + " and " + b, made(a, b).nearest(), want);
    }

    private static void nearestAt(String a, String b, int i, int j) {
        checks.due("nearestAt() of " + a + " and " + b, made(a, b).nearestAt(), 16 * i + j);
    }

    private static void shortest(String a, String b, int k, int want) {
        checks.due("shortest(" + k + ") of " + a + " and " + b, made(a, b).shortest(k), want);
    }

    private static void noneShortest(String a, String b, int k) {
        refused("shortest(" + k + ")", a, b, x -> x.shortest(k), NONE);
    }

    private static void widest(String a, String b, int w, int want) {
        checks.due("widest(" + w + ") of " + a + " and " + b, made(a, b).widest(w), want);
    }

    private static void noneWidest(String a, String b, int w) {
        refused("widest(" + w + ")", a, b, x -> x.widest(w), NONE);
    }

    private static void rotated(String a, String b, int want) {
        checks.due("rotated() of " + a + " and " + b, made(a, b).rotated(), want);
    }

    private static void tight(String a, String b, int want) {
        checks.due("tight() of " + a + " and " + b, made(a, b).tight(), want);
    }

    private static String turned(String word, int by) {
        return word.substring(by) + word.substring(0, by);
    }

    // Promise 14: nearest.

    static void promise14NearestOfEmptyAIs0() {
        for (int n = 0; n <= 14; n++) {
            nearest("", FULL_B.substring(0, n), 0);
        }
    }

    static void promise14NearestOfEmptyBIsTheLengthOfA() {
        for (int m = 0; m <= 10; m++) {
            nearest(FULL_A.substring(0, m), "", m);
        }
    }

    static void promise14NearestOfStrangersIsTheLengthOfA() {
        for (int m = 0; m <= 10; m++) {
            nearest(ZEROS_A.substring(0, m), ONES_B, m);
            nearest(ZEROS_A.substring(0, m), "1", m);
        }
    }

    static void promise14NearestAtTheBeginOfB() {
        nearest("012", "0123333", 0);
        nearest("0", "01111111111111", 0);
    }

    static void promise14NearestAtTheEndOfB() {
        nearest("012", "3333012", 0);
        nearest("0", "11111111111110", 0);
    }

    static void promise14NearestInsideB() {
        nearest("012", "3301233", 0);
        nearest("012", "3303233", 1);
        nearest("012", "3302333", 1);
    }

    static void promise14NearestIsTheWholeB() {
        nearest("0123", "0123", 0);
        nearest("0301300002", "03002133200002", 4);
    }

    static void promise14NearestOfAShorterB() {
        nearest(FULL_A, "0", 9);
        nearest(FULL_A, "01", 8);
        nearest("0123", "12", 2);
    }

    static void promise14NearestOfFullWords() {
        nearest(FULL_A, FULL_B, 0);
        nearest(ZEROS_A, ZEROS_B, 0);
        nearest(FULL_A, "3333" + FULL_A, 0);
    }

    // Promise 15: nearestAt.

    static void promise15NearestAtOfEmptyWordsIsTheFirstEmptyStretch() {
        nearestAt("", "", 0, 0);
        nearestAt("", "0", 0, 0);
        nearestAt("", FULL_B, 0, 0);
        nearestAt("0", "", 0, 0);
        nearestAt(FULL_A, "", 0, 0);
    }

    static void promise15NearestAtOfStrangersIsTheFirstEmptyStretch() {
        nearestAt("0", "1", 0, 0);
        nearestAt("000", "1111", 0, 0);
        nearestAt(ZEROS_A, ONES_B, 0, 0);
    }

    static void promise15NearestAtTheLeastBegin() {
        nearestAt("0", "00", 0, 1);
        nearestAt("0", "1010", 1, 2);
        nearestAt("01", "3013013301", 1, 3);
        nearestAt(ZEROS_A, ZEROS_B, 0, 10);
        nearestAt(FULL_A, FULL_B, 0, 10);
    }

    static void promise15NearestAtTheLeastEndOfThoseWithTheLeastBegin() {
        // Both (0, 1) and (0, 2) are one change away.
        nearestAt("01", "02", 0, 1);
        nearestAt("01", "3033", 1, 2);
        nearestAt("0000", "00", 0, 2);
    }

    static void promise15NearestAtTheLeastBeginGoesBeforeTheLeastLength() {
        // Both (0, 2) and (1, 2) are one change away.
        nearestAt("01", "21", 0, 2);
        // Both (0, 3) and (1, 3) are one change away.
        nearestAt("012", "312", 0, 3);
    }

    static void promise15NearestAtTheFirstLetter() {
        nearestAt("0", "01111111111111", 0, 1);
    }

    static void promise15NearestAtTheLastLetter() {
        nearestAt("0", "11111111111110", 13, 14);
        nearestAt("0", "10", 1, 2);
    }

    static void promise15NearestAtTheWholeB() {
        nearestAt("0123", "0123", 0, 4);
        nearestAt("0301300002", "03002133200002", 0, 14);
    }

    static void promise15NearestAtTheEndOfAFullB() {
        nearestAt(FULL_A, "3333" + FULL_A, 4, 14);
    }

    static void promise15NearestAtEveryPlaceOfAFullB() {
        for (int i = 0; i < 14; i++) {
            nearestAt("2", ONES_B.substring(0, i) + "2" + ONES_B.substring(i + 1), i, i + 1);
        }
    }

    // Promise 16: shortest.

    static void promise16ShortestBelow1Is0() {
        for (int k : new int[] {0, -1, -2, -4, LEAST + 1, LEAST}) {
            shortest("", "", k, 0);
            shortest("0", "", k, 0);
            shortest("", "0", k, 0);
            shortest("0", "1", k, 0);
            shortest("0", "0", k, 0);
            shortest(FULL_A, FULL_B, k, 0);
        }
    }

    static void promise16ShortestOf1() {
        shortest("0", "0", 1, 1);
        shortest("0", "11111111111110", 1, 1);
        shortest("0", "01111111111111", 1, 1);
        noneShortest("0", "1", 1);
        noneShortest(ZEROS_A, ONES_B, 1);
    }

    static void promise16ShortestOfEmptyWordsIsNone() {
        for (int k : new int[] {1, 2, 10, 14, MOST}) {
            noneShortest("", "", k);
            noneShortest(FULL_A, "", k);
            noneShortest("", FULL_B, k);
        }
    }

    static void promise16ShortestAboveTheLengthOfAIsNone() {
        shortest("00", ZEROS_B, 2, 2);
        for (int k : new int[] {3, 4, 10, 14, 15, MOST - 1, MOST}) {
            noneShortest("00", ZEROS_B, k);
        }
    }

    static void promise16ShortestAboveTheLengthOfBIsNone() {
        shortest(ZEROS_A, "00", 2, 2);
        for (int k : new int[] {3, 4, 10, 14, 15, MOST - 1, MOST}) {
            noneShortest(ZEROS_A, "00", k);
        }
    }

    static void promise16ShortestAboveWhatIsInCommonIsNone() {
        shortest("0123", "3210", 1, 1);
        noneShortest("0123", "3210", 2);
        shortest("0123", "0132", 3, 3);
        noneShortest("0123", "0132", 4);
    }

    static void promise16ShortestIsTheWholeB() {
        shortest("01", "0222222222221", 2, 13);
        shortest("01", "02222222222221", 2, 14);
        noneShortest("01", "02222222222221", 3);
    }

    static void promise16ShortestAtTheBeginAndAtTheEndOfB() {
        shortest("01", "01222", 2, 2);
        shortest("01", "22201", 2, 2);
        shortest("01", "021222201", 2, 2);
        shortest("01", "012222021", 2, 2);
    }

    static void promise16ShortestOfFullWords() {
        for (int k = 1; k <= 10; k++) {
            shortest(FULL_A, FULL_B, k, k);
            shortest(ZEROS_A, ZEROS_B, k, k);
        }
        noneShortest(FULL_A, FULL_B, 11);
        noneShortest(ZEROS_A, ZEROS_B, 11);
    }

    // Promise 17: widest.

    static void promise17WidestBelow0IsNone() {
        for (int w : BELOW_0) {
            noneWidest("", "", w);
            noneWidest("01", "0123", w);
            noneWidest(FULL_A, FULL_B, w);
        }
    }

    static void promise17WidestAboveTheLengthOfBIsNone() {
        for (int w : new int[] {5, 6, 10, 14, 15, MOST - 1, MOST}) {
            noneWidest("01", "0123", w);
            noneWidest(FULL_A, "0123", w);
        }
        for (int w : new int[] {15, 16, MOST - 1, MOST}) {
            noneWidest(FULL_A, FULL_B, w);
        }
    }

    static void promise17WidestOf0Is0() {
        widest("", "", 0, 0);
        widest(FULL_A, "", 0, 0);
        widest("0", "0", 0, 0);
        widest(FULL_A, FULL_B, 0, 0);
    }

    static void promise17WidestOfEmptyBIsNoneAbove0() {
        for (int w : new int[] {1, 2, 14, 15, MOST}) {
            noneWidest("", "", w);
            noneWidest(FULL_A, "", w);
        }
    }

    static void promise17WidestOfEmptyAIs0() {
        for (int w = 0; w <= 14; w++) {
            widest("", FULL_B, w, 0);
        }
        noneWidest("", FULL_B, 15);
    }

    static void promise17WidestOfTheWholeB() {
        widest("01", "0123", 4, 2);
        widest("01", "02222222222221", 13, 1);
        widest("01", "02222222222221", 14, 2);
        widest(FULL_A, FULL_B, 14, 10);
    }

    static void promise17WidestAtTheBeginAndAtTheEndOfB() {
        widest("01", "0122222", 2, 2);
        widest("01", "2222201", 2, 2);
        widest("01", "2220122", 2, 2);
    }

    static void promise17WidestOfExactlyThatManyLetters() {
        // A wider stretch has more in common, and a narrower one less.
        widest("012", "0312", 1, 1);
        widest("012", "0312", 2, 2);
        widest("012", "0312", 3, 2);
        widest("012", "0312", 4, 3);
        widest("0", "1", 1, 0);
    }

    static void promise17WidestAboveTheLengthOfA() {
        widest("0", ZEROS_B, 2, 1);
        widest("0", ZEROS_B, 11, 1);
        widest("0", ZEROS_B, 14, 1);
    }

    static void promise17WidestOfFullWords() {
        for (int w = 0; w <= 14; w++) {
            widest(FULL_A, FULL_B, w, Math.min(w, 10));
            widest(ZEROS_A, ONES_B, w, 0);
        }
    }

    // Promise 18: rotated.

    static void promise18RotatedOfEmptyBIs0() {
        rotated("", "", 0);
        rotated("0", "", 0);
        rotated(FULL_A, "", 0);
    }

    static void promise18RotatedOfEmptyAIs0() {
        for (int n = 1; n <= 14; n++) {
            rotated("", FULL_B.substring(0, n), 0);
        }
    }

    static void promise18RotatedOfBAfterItsLastLetterWent() {
        SeaweedWindows x = made("00", "00");
        x.shiftB();
        checks.due("rotated() of one letter left", x.rotated(), 1);
        x.shiftB();
        checks.due("rotated() of no letter left", x.rotated(), 0);
    }

    static void promise18RotatedOfOneLetter() {
        rotated("0", "0", 1);
        rotated("0", "1", 0);
        rotated("00", "0", 1);
    }

    static void promise18RotatedByNothing() {
        rotated("0123", "0123", 4);
        rotated(FULL_A, FULL_A, 10);
    }

    static void promise18RotatedToEveryPlace() {
        // No other rotation of this word is the word itself.
        String word = "0011223301";
        for (int by = 0; by < 10; by++) {
            rotated(word, turned(word, by), 10);
        }
    }

    static void promise18RotatedToEveryPlaceOfAFullB() {
        String word = "00001111223333";
        for (int by = 0; by < 14; by++) {
            rotated("0000111122", turned(word, by), 10);
        }
        // 0000 3333 22 1111 comes nearest.
        rotated("0000111122", "22111100003333", 8);
    }

    static void promise18RotatedGoesRoundOnce() {
        rotated("0000", "000", 3);
        rotated("0101", "01", 2);
        rotated("0123012301", "0123", 4);
        rotated(ZEROS_A, "01111111111111", 1);
    }

    static void promise18RotatedDoesNotTurnTheWordAbout() {
        rotated("0123", "3210", 2);
        rotated("012", "210", 2);
    }

    static void promise18RotatedAfterShiftBLeavesNoLetterBehind() {
        SeaweedWindows x = made("012", "0120");
        checks.due("shiftB()", x.shiftB(), 0);
        checks.due("rotated() of 120", x.rotated(), 3);
        checks.due("shiftB()", x.shiftB(), 1);
        checks.due("rotated() of 20", x.rotated(), 2);
        checks.due("shiftB()", x.shiftB(), 2);
        checks.due("rotated() of 0", x.rotated(), 1);
    }

    static void promise18RotatedOfFullWords() {
        rotated(ZEROS_A, ZEROS_B, 10);
        rotated(ZEROS_A, ONES_B, 0);
        rotated(FULL_A, FULL_B, 10);
    }

    // Promise 19: tight.

    static void promise19TightOfEmptyBIs1() {
        tight("", "", 1);
        tight("0", "", 1);
        tight(FULL_A, "", 1);
    }

    static void promise19TightOfEmptyACountsTheEmptyStretches() {
        for (int n = 0; n <= 14; n++) {
            tight("", FULL_B.substring(0, n), n + 1);
        }
    }

    static void promise19TightOfStrangersCountsTheEmptyStretches() {
        for (int n = 0; n <= 14; n++) {
            tight(ZEROS_A, ONES_B.substring(0, n), n + 1);
        }
    }

    static void promise19TightOfOneLetter() {
        tight("0", "0", 3);
        tight("0", "1", 2);
        tight("00", "0", 3);
    }

    static void promise19TightNeedsMoreThanAnyOtherStretchInside() {
        // (0, 2) has no more in common than (0, 1) and (1, 2).
        tight("0", "00", 5);
        // (0, 2) has no more than (0, 1), though more than (1, 2).
        tight("0", "01", 4);
        // (0, 2) has no more than (1, 2), though more than (0, 1).
        tight("0", "10", 4);
    }

    static void promise19TightDoesNotLookInsideForLettersNotInCommon() {
        // The empty ones, (0, 1), (2, 3) and (0, 3).
        tight("01", "021", 7);
        // The empty ones, the two letters and the whole.
        tight("01", "02222222222221", 18);
    }

    static void promise19TightOfTheSameCountsEveryStretch() {
        for (int m = 0; m <= 10; m++) {
            tight(FULL_A.substring(0, m), FULL_A.substring(0, m), (m + 1) * (m + 2) / 2);
        }
    }

    static void promise19TightOfFullWords() {
        // Every stretch of up to ten letters.
        tight(ZEROS_A, ZEROS_B, 110);
        tight("0", ZEROS_B, 29);
        tight("0", "10000000000001", 27);
    }

    static void promise19TightCountsTheLettersAtBothEnds() {
        tight("0", "01111111111111", 16);
        tight("0", "11111111111110", 16);
    }

    public static void main(String[] args) throws IllegalAccessException {
        runAll(EdgesOfStretchesTest.class);
    }
}
