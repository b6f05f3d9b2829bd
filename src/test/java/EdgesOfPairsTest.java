/** The boundary cases of promises 8 to 13, the calls with two arguments, each in a test of its own. */
public final class EdgesOfPairsTest extends Cases {
    /** A call with two arguments, with its name for the report. */
    private record Call(String name, Asked asked) {
        int on(SeaweedWindows x, int i, int j) {
            return asked.on(x, i, j);
        }

        String with(int i, int j) {
            return name + "(" + i + ", " + j + ")";
        }
    }

    private interface Asked {
        int on(SeaweedWindows x, int i, int j);
    }

    private static final Call COMMON_B = new Call("commonB", (x, i, j) -> x.commonB(i, j));
    private static final Call COMMON_A = new Call("commonA", (x, i, j) -> x.commonA(i, j));
    private static final Call COMMON_END = new Call("commonEnd", (x, i, j) -> x.commonEnd(i, j));
    private static final Call COMMON_BEGIN = new Call("commonBegin", (x, i, j) -> x.commonBegin(i, j));
    private static final Call CHANGES_B = new Call("changesB", (x, i, j) -> x.changesB(i, j));
    private static final Call CHANGES_A = new Call("changesA", (x, i, j) -> x.changesA(i, j));
    private static final int[] BELOW_0 = {-1, -2, LEAST + 1, LEAST};

    private static void due(Call call, String a, String b, int i, int j, int want) {
        checks.due(call.with(i, j) + " of " + a + " and " + b, call.on(made(a, b), i, j), want);
    }

    private static void badArg(Call call, String a, String b, int i, int j) {
        refused(call.with(i, j), a, b, x -> call.on(x, i, j), BAD_ARG);
    }

    /** In these helpers length is that of the word that the stretch is of. */
    private static void beginBelow0(Call call, String a, String b, int length) {
        for (int i : BELOW_0) {
            badArg(call, a, b, i, 0);
            badArg(call, a, b, i, 1);
            badArg(call, a, b, i, length);
            badArg(call, a, b, i, length + 1);
        }
        badArg(call, a, b, -1, -1);
        badArg(call, a, b, -2, -1);
        badArg(call, a, b, LEAST, LEAST);
        badArg(call, a, b, LEAST, MOST);
    }

    private static void beginAfterEnd(Call call, String a, String b, int length) {
        for (int j = 0; j < length; j++) {
            badArg(call, a, b, j + 1, j);
            badArg(call, a, b, length, j);
        }
        badArg(call, a, b, 0, -1);
        badArg(call, a, b, length, -1);
        badArg(call, a, b, length + 1, length);
        badArg(call, a, b, MOST, 0);
        badArg(call, a, b, MOST, LEAST);
        badArg(call, a, b, 0, LEAST);
    }

    private static void endBeyondTheWord(Call call, String a, String b, int length) {
        for (int j : new int[] {length + 1, length + 2, 16, MOST - 1, MOST}) {
            badArg(call, a, b, 0, j);
            badArg(call, a, b, length, j);
            badArg(call, a, b, j - 1, j);
            badArg(call, a, b, j, j);
        }
    }

    private static void emptyStretches(Call call, String a, String b, int length, int want) {
        for (int i = 0; i <= length; i++) {
            due(call, a, b, i, i, want);
        }
    }

    private static void emptyWordHasOneStretch(Call call, String a, String b, int want) {
        due(call, a, b, 0, 0, want);
        badArg(call, a, b, 0, 1);
        badArg(call, a, b, 1, 1);
        badArg(call, a, b, 1, 0);
        badArg(call, a, b, -1, 0);
        badArg(call, a, b, -1, -1);
    }

    // Promise 8: commonB.

    static void promise08CommonBBeginBelow0IsBadArg() {
        beginBelow0(COMMON_B, "012", "01230", 5);
    }

    static void promise08CommonBBeginAfterEndIsBadArg() {
        beginAfterEnd(COMMON_B, "012", "01230", 5);
    }

    static void promise08CommonBEndBeyondBIsBadArg() {
        endBeyondTheWord(COMMON_B, "012", "01230", 5);
        endBeyondTheWord(COMMON_B, FULL_A, FULL_B, 14);
    }

    static void promise08CommonBEmptyStretchesHaveNothingInCommon() {
        emptyStretches(COMMON_B, "012", "01230", 5, 0);
        emptyStretches(COMMON_B, FULL_A, FULL_B, 14, 0);
    }

    static void promise08CommonBEmptyBHasOneStretch() {
        emptyWordHasOneStretch(COMMON_B, "", "", 0);
        emptyWordHasOneStretch(COMMON_B, FULL_A, "", 0);
    }

    static void promise08CommonBEmptyAHasNothingInCommon() {
        due(COMMON_B, "", FULL_B, 0, 14, 0);
        due(COMMON_B, "", FULL_B, 13, 14, 0);
        due(COMMON_B, "", FULL_B, 0, 0, 0);
        badArg(COMMON_B, "", FULL_B, 0, 15);
    }

    static void promise08CommonBReachesTheFirstAndTheLastLetter() {
        due(COMMON_B, "3", "30002", 0, 1, 1);
        due(COMMON_B, "3", "30002", 1, 5, 0);
        due(COMMON_B, "2", "30002", 4, 5, 1);
        due(COMMON_B, "2", "30002", 0, 4, 0);
        due(COMMON_B, "302", "30002", 0, 5, 3);
    }

    static void promise08CommonBOfFullWords() {
        due(COMMON_B, FULL_A, FULL_B, 0, 14, 10);
        due(COMMON_B, FULL_A, FULL_B, 0, 10, 10);
        due(COMMON_B, FULL_A, FULL_B, 0, 9, 9);
        due(COMMON_B, FULL_A, FULL_B, 4, 14, 10);
        due(COMMON_B, FULL_A, FULL_B, 5, 14, 9);
        due(COMMON_B, FULL_A, FULL_B, 13, 14, 1);
        due(COMMON_B, "0000000000", "11111111111111", 0, 14, 0);
        due(COMMON_B, "0000000000", "00000000000000", 0, 14, 10);
        due(COMMON_B, "0000000000", "00000000000000", 2, 11, 9);
    }

    static void promise08CommonBTheLengthOfAIsNoBound() {
        due(COMMON_B, "1", "00001", 2, 5, 1);
        due(COMMON_B, "1", "00001", 4, 5, 1);
        badArg(COMMON_B, FULL_A, "01", 0, 3);
        badArg(COMMON_B, FULL_A, "01", 0, 10);
    }

    static void promise08CommonBALetterServesOnce() {
        due(COMMON_B, "0", "000", 0, 3, 1);
        due(COMMON_B, "000", "0", 0, 1, 1);
        due(COMMON_B, "10", "01", 0, 2, 1);
    }

    static void promise08CommonBTheEndMovesWithGrowBAndShiftB() {
        SeaweedWindows x = made("01", "23");
        checks.due("commonB(0, 3)", x.commonB(0, 3), BAD_ARG);
        x.growB(1);
        checks.due("commonB(0, 3) after growB", x.commonB(0, 3), 1);
        x.shiftB();
        checks.due("commonB(0, 3) after shiftB", x.commonB(0, 3), BAD_ARG);
        checks.due("commonB(1, 2) after shiftB", x.commonB(1, 2), 1);
    }

    // Promise 9: commonA.

    static void promise09CommonABeginBelow0IsBadArg() {
        beginBelow0(COMMON_A, "01230", "012", 5);
    }

    static void promise09CommonABeginAfterEndIsBadArg() {
        beginAfterEnd(COMMON_A, "01230", "012", 5);
    }

    static void promise09CommonAEndBeyondAIsBadArg() {
        endBeyondTheWord(COMMON_A, "01230", "012", 5);
        endBeyondTheWord(COMMON_A, FULL_A, FULL_B, 10);
    }

    static void promise09CommonAEmptyStretchesHaveNothingInCommon() {
        emptyStretches(COMMON_A, "01230", "012", 5, 0);
        emptyStretches(COMMON_A, FULL_A, FULL_B, 10, 0);
    }

    static void promise09CommonAEmptyAHasOneStretch() {
        emptyWordHasOneStretch(COMMON_A, "", "", 0);
        emptyWordHasOneStretch(COMMON_A, "", FULL_B, 0);
    }

    static void promise09CommonAEmptyBHasNothingInCommon() {
        due(COMMON_A, FULL_A, "", 0, 10, 0);
        due(COMMON_A, FULL_A, "", 9, 10, 0);
        due(COMMON_A, FULL_A, "", 0, 0, 0);
        badArg(COMMON_A, FULL_A, "", 0, 11);
    }

    static void promise09CommonAReachesTheFirstAndTheLastLetter() {
        due(COMMON_A, "30002", "3", 0, 1, 1);
        due(COMMON_A, "30002", "3", 1, 5, 0);
        due(COMMON_A, "30002", "2", 4, 5, 1);
        due(COMMON_A, "30002", "2", 0, 4, 0);
        due(COMMON_A, "30002", "302", 0, 5, 3);
    }

    static void promise09CommonAOfFullWords() {
        due(COMMON_A, FULL_A, FULL_B, 0, 10, 10);
        due(COMMON_A, FULL_A, FULL_B, 0, 9, 9);
        due(COMMON_A, FULL_A, FULL_B, 1, 10, 9);
        due(COMMON_A, FULL_A, FULL_B, 9, 10, 1);
        due(COMMON_A, "0000000000", "11111111111111", 0, 10, 0);
        due(COMMON_A, "0000000000", "00000000000000", 0, 10, 10);
        due(COMMON_A, "0000000000", "10000000000002", 1, 9, 8);
    }

    static void promise09CommonATheLengthOfBIsNoBound() {
        due(COMMON_A, "00001", "1", 2, 5, 1);
        due(COMMON_A, "00001", "1", 4, 5, 1);
        badArg(COMMON_A, "01", FULL_B, 0, 3);
        badArg(COMMON_A, "01", FULL_B, 0, 14);
    }

    static void promise09CommonAALetterServesOnce() {
        due(COMMON_A, "000", "0", 0, 3, 1);
        due(COMMON_A, "0", "000", 0, 1, 1);
        due(COMMON_A, "10", "01", 0, 2, 1);
    }

    static void promise09CommonATheEndMovesWithGrowAAndClear() {
        SeaweedWindows x = made("23", "01");
        checks.due("commonA(0, 3)", x.commonA(0, 3), BAD_ARG);
        x.growA(1);
        checks.due("commonA(0, 3) after growA", x.commonA(0, 3), 1);
        x.clear();
        checks.due("commonA(0, 1) after clear", x.commonA(0, 1), BAD_ARG);
        checks.due("commonA(0, 0) after clear", x.commonA(0, 0), 0);
    }

    // Promises 10 and 11 have the same bounds: k goes to m, and j to n.

    private static void countOfABelow0(Call call) {
        for (int k : BELOW_0) {
            for (int j = 0; j <= 5; j++) {
                badArg(call, "012", "01230", k, j);
            }
            badArg(call, "", "", k, 0);
        }
    }

    private static void countOfBBelow0(Call call) {
        for (int j : BELOW_0) {
            for (int k = 0; k <= 3; k++) {
                badArg(call, "012", "01230", k, j);
            }
            badArg(call, "", "", 0, j);
        }
    }

    private static void countOfAAboveItsLength(Call call) {
        for (int k : new int[] {4, 5, 6, 10, 11, MOST - 1, MOST}) {
            for (int j = 0; j <= 5; j++) {
                badArg(call, "012", "01230", k, j);
            }
        }
        badArg(call, FULL_A, FULL_B, 11, 0);
        badArg(call, FULL_A, FULL_B, 11, 14);
        badArg(call, FULL_A, FULL_B, 14, 14);
    }

    private static void countOfBAboveItsLength(Call call) {
        for (int j : new int[] {4, 5, 10, 14, 15, MOST - 1, MOST}) {
            for (int k = 0; k <= 5; k++) {
                badArg(call, "01230", "012", k, j);
            }
        }
        badArg(call, FULL_A, FULL_B, 0, 15);
        badArg(call, FULL_A, FULL_B, 10, 15);
    }

    private static void bothCountsWrong(Call call) {
        badArg(call, "012", "01230", -1, -1);
        badArg(call, "012", "01230", 4, 6);
        badArg(call, "012", "01230", -1, 6);
        badArg(call, "012", "01230", 4, -1);
        badArg(call, "012", "01230", LEAST, LEAST);
        badArg(call, "012", "01230", MOST, MOST);
        badArg(call, "012", "01230", LEAST, MOST);
        badArg(call, "012", "01230", MOST, LEAST);
    }

    private static void emptyWords(Call call) {
        due(call, "", "", 0, 0, 0);
        badArg(call, "", "", 1, 0);
        badArg(call, "", "", 0, 1);
        due(call, FULL_A, "", 10, 0, 0);
        badArg(call, FULL_A, "", 10, 1);
        badArg(call, FULL_A, "", 11, 0);
        due(call, "", FULL_B, 0, 14, 0);
        badArg(call, "", FULL_B, 1, 14);
        badArg(call, "", FULL_B, 0, 15);
    }

    private static void noLettersOfOneWord(Call call) {
        for (int k = 0; k <= 4; k++) {
            due(call, "0000", "00000", k, 0, 0);
        }
        for (int j = 0; j <= 5; j++) {
            due(call, "0000", "00000", 0, j, 0);
        }
    }

    private static void everyCount(Call call) {
        for (int k = 0; k <= 10; k++) {
            for (int j = 0; j <= 14; j++) {
                due(call, "2222222222", "22222222222222", k, j, Math.min(k, j));
            }
        }
    }

    // Promise 10: commonEnd.

    static void promise10CommonEndKBelow0IsBadArg() {
        countOfABelow0(COMMON_END);
    }

    static void promise10CommonEndJBelow0IsBadArg() {
        countOfBBelow0(COMMON_END);
    }

    static void promise10CommonEndKAboveTheLengthOfAIsBadArg() {
        countOfAAboveItsLength(COMMON_END);
    }

    static void promise10CommonEndJAboveTheLengthOfBIsBadArg() {
        countOfBAboveItsLength(COMMON_END);
    }

    static void promise10CommonEndBothWrongIsBadArg() {
        bothCountsWrong(COMMON_END);
    }

    static void promise10CommonEndOfEmptyWords() {
        emptyWords(COMMON_END);
    }

    static void promise10CommonEndOfNoLettersIs0() {
        noLettersOfOneWord(COMMON_END);
    }

    static void promise10CommonEndTakesEveryCountOfFullWords() {
        everyCount(COMMON_END);
    }

    static void promise10CommonEndTakesTheLastOfAAndTheFirstOfB() {
        due(COMMON_END, "3002", "2113", 1, 1, 1);
        due(COMMON_END, "3002", "2113", 3, 3, 1);
        due(COMMON_END, "3002", "2113", 3, 4, 1);
        due(COMMON_END, "3002", "1113", 4, 3, 0);
        due(COMMON_END, "3002", "1113", 3, 4, 0);
        due(COMMON_END, "3002", "1113", 4, 4, 1);
    }

    static void promise10CommonEndOfBothWholeWords() {
        due(COMMON_END, FULL_A, FULL_B, 10, 14, 10);
        due(COMMON_END, FULL_A, FULL_B, 10, 10, 10);
        due(COMMON_END, FULL_A, FULL_B, 9, 14, 9);
        due(COMMON_END, FULL_A, FULL_B, 1, 1, 0);
        due(COMMON_END, FULL_A, FULL_B, 1, 2, 1);
        due(COMMON_END, FULL_A, FULL_B, 2, 2, 2);
    }

    // Promise 11: commonBegin.

    static void promise11CommonBeginKBelow0IsBadArg() {
        countOfABelow0(COMMON_BEGIN);
    }

    static void promise11CommonBeginJBelow0IsBadArg() {
        countOfBBelow0(COMMON_BEGIN);
    }

    static void promise11CommonBeginKAboveTheLengthOfAIsBadArg() {
        countOfAAboveItsLength(COMMON_BEGIN);
    }

    static void promise11CommonBeginJAboveTheLengthOfBIsBadArg() {
        countOfBAboveItsLength(COMMON_BEGIN);
    }

    static void promise11CommonBeginBothWrongIsBadArg() {
        bothCountsWrong(COMMON_BEGIN);
    }

    static void promise11CommonBeginOfEmptyWords() {
        emptyWords(COMMON_BEGIN);
    }

    static void promise11CommonBeginOfNoLettersIs0() {
        noLettersOfOneWord(COMMON_BEGIN);
    }

    static void promise11CommonBeginTakesEveryCountOfFullWords() {
        everyCount(COMMON_BEGIN);
    }

    static void promise11CommonBeginTakesTheFirstOfAAndTheLastOfB() {
        due(COMMON_BEGIN, "2003", "3112", 1, 1, 1);
        due(COMMON_BEGIN, "2003", "3112", 3, 3, 1);
        due(COMMON_BEGIN, "2003", "3112", 3, 4, 1);
        due(COMMON_BEGIN, "2003", "3111", 4, 3, 0);
        due(COMMON_BEGIN, "2003", "3111", 3, 4, 0);
        due(COMMON_BEGIN, "2003", "3111", 4, 4, 1);
    }

    static void promise11CommonBeginOfBothWholeWords() {
        due(COMMON_BEGIN, FULL_A, FULL_B, 10, 14, 10);
        due(COMMON_BEGIN, FULL_A, FULL_B, 10, 10, 10);
        due(COMMON_BEGIN, FULL_A, FULL_B, 10, 9, 9);
        due(COMMON_BEGIN, FULL_A, FULL_B, 9, 14, 9);
        due(COMMON_BEGIN, FULL_A, FULL_B, 1, 1, 0);
        due(COMMON_BEGIN, FULL_A, FULL_B, 1, 2, 1);
        due(COMMON_BEGIN, FULL_A, FULL_B, 2, 2, 2);
    }

    // Promise 12: changesB.

    static void promise12ChangesBBeginBelow0IsBadArg() {
        beginBelow0(CHANGES_B, "012", "01230", 5);
    }

    static void promise12ChangesBBeginAfterEndIsBadArg() {
        beginAfterEnd(CHANGES_B, "012", "01230", 5);
    }

    static void promise12ChangesBEndBeyondBIsBadArg() {
        endBeyondTheWord(CHANGES_B, "012", "01230", 5);
        endBeyondTheWord(CHANGES_B, FULL_A, FULL_B, 14);
    }

    static void promise12ChangesBToAnEmptyStretchTakesAllLettersOut() {
        emptyStretches(CHANGES_B, "012", "01230", 5, 3);
        emptyStretches(CHANGES_B, FULL_A, FULL_B, 14, 10);
    }

    static void promise12ChangesBEmptyBHasOneStretch() {
        emptyWordHasOneStretch(CHANGES_B, "", "", 0);
        emptyWordHasOneStretch(CHANGES_B, "3", "", 1);
        emptyWordHasOneStretch(CHANGES_B, FULL_A, "", 10);
    }

    static void promise12ChangesBOfEmptyAPutsAllLettersIn() {
        for (int i = 0; i <= 14; i++) {
            for (int j = i; j <= 14; j++) {
                due(CHANGES_B, "", FULL_B, i, j, j - i);
            }
        }
    }

    static void promise12ChangesBToTheSameIs0() {
        due(CHANGES_B, "0", "0", 0, 1, 0);
        due(CHANGES_B, FULL_A, FULL_B, 0, 10, 0);
        due(CHANGES_B, FULL_A, FULL_B, 4, 14, 0);
    }

    static void promise12ChangesBOneLetterPutIn() {
        due(CHANGES_B, "12", "012", 0, 3, 1);
        due(CHANGES_B, "02", "012", 0, 3, 1);
        due(CHANGES_B, "01", "012", 0, 3, 1);
    }

    static void promise12ChangesBOneLetterTakenOut() {
        due(CHANGES_B, "3012", "012", 0, 3, 1);
        due(CHANGES_B, "0132", "012", 0, 3, 1);
        due(CHANGES_B, "0123", "012", 0, 3, 1);
    }

    static void promise12ChangesBOneLetterInThePlaceOfAnother() {
        due(CHANGES_B, "312", "012", 0, 3, 1);
        due(CHANGES_B, "032", "012", 0, 3, 1);
        due(CHANGES_B, "013", "012", 0, 3, 1);
    }

    static void promise12ChangesBOfFullWords() {
        due(CHANGES_B, FULL_A, FULL_B, 0, 14, 4);
        due(CHANGES_B, "0000000000", "11111111111111", 0, 14, 14);
        due(CHANGES_B, "0000000000", "11111111111111", 2, 12, 10);
        due(CHANGES_B, "0000000000", "11111111111111", 13, 14, 10);
    }

    static void promise12ChangesBTheLengthOfAIsNoBound() {
        due(CHANGES_B, "1", "00001", 2, 5, 2);
        due(CHANGES_B, "1", "00001", 4, 5, 0);
        badArg(CHANGES_B, FULL_A, "01", 0, 3);
        badArg(CHANGES_B, FULL_A, "01", 0, 10);
    }

    // Promise 13: changesA.

    static void promise13ChangesABeginBelow0IsBadArg() {
        beginBelow0(CHANGES_A, "01230", "012", 5);
    }

    static void promise13ChangesABeginAfterEndIsBadArg() {
        beginAfterEnd(CHANGES_A, "01230", "012", 5);
    }

    static void promise13ChangesAEndBeyondAIsBadArg() {
        endBeyondTheWord(CHANGES_A, "01230", "012", 5);
        endBeyondTheWord(CHANGES_A, FULL_A, FULL_B, 10);
    }

    static void promise13ChangesAOfAnEmptyStretchPutsAllLettersIn() {
        emptyStretches(CHANGES_A, "01230", "012", 5, 3);
        emptyStretches(CHANGES_A, FULL_A, FULL_B, 10, 14);
    }

    static void promise13ChangesAEmptyAHasOneStretch() {
        emptyWordHasOneStretch(CHANGES_A, "", "", 0);
        emptyWordHasOneStretch(CHANGES_A, "", "3", 1);
        emptyWordHasOneStretch(CHANGES_A, "", FULL_B, 14);
    }

    static void promise13ChangesAToEmptyBTakesAllLettersOut() {
        for (int i = 0; i <= 10; i++) {
            for (int j = i; j <= 10; j++) {
                due(CHANGES_A, FULL_A, "", i, j, j - i);
            }
        }
    }

    static void promise13ChangesAOfTheSameIs0() {
        due(CHANGES_A, "0", "0", 0, 1, 0);
        due(CHANGES_A, FULL_A, FULL_A, 0, 10, 0);
        due(CHANGES_A, FULL_A, "1230", 5, 9, 0);
    }

    static void promise13ChangesAOneLetterPutIn() {
        due(CHANGES_A, "012", "3012", 0, 3, 1);
        due(CHANGES_A, "012", "0132", 0, 3, 1);
        due(CHANGES_A, "012", "0123", 0, 3, 1);
    }

    static void promise13ChangesAOneLetterTakenOut() {
        due(CHANGES_A, "012", "12", 0, 3, 1);
        due(CHANGES_A, "012", "02", 0, 3, 1);
        due(CHANGES_A, "012", "01", 0, 3, 1);
    }

    static void promise13ChangesAOneLetterInThePlaceOfAnother() {
        due(CHANGES_A, "012", "312", 0, 3, 1);
        due(CHANGES_A, "012", "032", 0, 3, 1);
        due(CHANGES_A, "012", "013", 0, 3, 1);
    }

    static void promise13ChangesAOfFullWords() {
        due(CHANGES_A, FULL_A, FULL_B, 0, 10, 4);
        due(CHANGES_A, FULL_A, FULL_B, 9, 10, 13);
        due(CHANGES_A, "0000000000", "11111111111111", 0, 10, 14);
        due(CHANGES_A, "0000000000", "11111111111111", 9, 10, 14);
    }

    static void promise13ChangesATheLengthOfBIsNoBound() {
        due(CHANGES_A, "00001", "1", 2, 5, 2);
        due(CHANGES_A, "00001", "1", 4, 5, 0);
        badArg(CHANGES_A, "01", FULL_B, 0, 3);
        badArg(CHANGES_A, "01", FULL_B, 0, 14);
    }

    public static void main(String[] args) throws IllegalAccessException {
        runAll(EdgesOfPairsTest.class);
    }
}
