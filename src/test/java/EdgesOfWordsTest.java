/** The boundary cases of the terms and of promises 1 to 7, each in a test of its own. */
public final class EdgesOfWordsTest extends Cases {
    private static final int[] BELOW_0 = {-1, -2, -4, LEAST + 1, LEAST};
    private static final int[] ABOVE_3 = {4, 5, 7, 256, MOST - 1, MOST};
    /** Around every bound that a place, a length or a letter has, and at the ends of int. */
    private static final int[] ANY = {LEAST, LEAST + 1, -15, -2, -1, 0, 1, 2, 3, 4, 5, 9, 10, 11, 13, 14, 15, 16, MOST - 1, MOST};
    private static final String[][] STATES = {{"", ""}, {"1", ""}, {"", "2"}, {"1", "2"}, {"0123", "32"}, {FULL_A, ""},
        {"", FULL_B}, {FULL_A, FULL_B}};

    private static void growARefused(String a, int c, int code) {
        refused("growA(" + c + ")", a, "301", x -> x.growA(c), code);
    }

    private static void growBRefused(String b, int c, int code) {
        refused("growB(" + c + ")", "301", b, x -> x.growB(c), code);
    }

    private static void putARefused(String a, int i, int c) {
        refused("putA(" + i + ", " + c + ")", a, FULL_B, x -> x.putA(i, c), BAD_ARG);
    }

    // The terms: what holds for every call.

    static void termsNoCallWithOneArgumentThrows() {
        for (String[] s : STATES) {
            for (int k : ANY) {
                SeaweedWindows x = made(s[0], s[1]);
                boolean isLetter = k >= 0 && k <= 3;
                boolean isWidth = k >= 0 && k <= s[1].length();
                boolean isBeyond = k > s[0].length() || k > s[1].length();
                String of = "(" + k + ") of " + s[0] + " and " + s[1];
                checks.holds("widest" + of + " is NONE if there is no such width", (x.widest(k) == NONE) == !isWidth);
                checks.holds("shortest" + of + " is 0 below 1", (x.shortest(k) == 0) == (k < 1));
                checks.holds("shortest" + of + " is NONE beyond a word", !isBeyond || k < 1 || x.shortest(k) == NONE);
                checks.holds("growA" + of + " is BAD_ARG for no letter", (x.growA(k) == BAD_ARG) == !isLetter);
                checks.holds("growB" + of + " is BAD_ARG for no letter", (x.growB(k) == BAD_ARG) == !isLetter);
            }
        }
    }

    static void termsNoCallWithTwoArgumentsThrows() {
        for (String[] s : STATES) {
            for (int i : ANY) {
                for (int j : ANY) {
                    refusedOnlyWhenDue(s[0], s[1], i, j);
                }
            }
        }
    }

    private static void refusedOnlyWhenDue(String a, String b, int i, int j) {
        SeaweedWindows x = made(a, b);
        boolean isOfA = 0 <= i && i <= j && j <= a.length();
        boolean isOfB = 0 <= i && i <= j && j <= b.length();
        boolean isPair = 0 <= i && i <= a.length() && 0 <= j && j <= b.length();
        boolean isPut = 0 <= i && i < a.length() && 0 <= j && j <= 3;
        String of = "(" + i + ", " + j + ") of " + a + " and " + b + " is BAD_ARG when due";
        checks.holds("commonA" + of, (x.commonA(i, j) == BAD_ARG) == !isOfA);
        checks.holds("changesA" + of, (x.changesA(i, j) == BAD_ARG) == !isOfA);
        checks.holds("commonB" + of, (x.commonB(i, j) == BAD_ARG) == !isOfB);
        checks.holds("changesB" + of, (x.changesB(i, j) == BAD_ARG) == !isOfB);
        checks.holds("commonEnd" + of, (x.commonEnd(i, j) == BAD_ARG) == !isPair);
        checks.holds("commonBegin" + of, (x.commonBegin(i, j) == BAD_ARG) == !isPair);
        checks.holds("putA" + of, (x.putA(i, j) == BAD_ARG) == !isPut);
    }

    static void termsNoCallWithoutArgumentsThrows() {
        for (String[] s : STATES) {
            SeaweedWindows x = made(s[0], s[1]);
            String of = " of " + s[0] + " and " + s[1];
            checks.due("lengths()" + of, x.lengths(), s[0].length() + 16 * s[1].length());
            checks.holds("nearest()" + of + " is 0 to m", x.nearest() >= 0 && x.nearest() <= s[0].length());
            checks.holds("nearestAt()" + of + " is no code", x.nearestAt() >= 0);
            checks.holds("rotated()" + of + " is 0 to m", x.rotated() >= 0 && x.rotated() <= s[0].length());
            checks.holds("tight()" + of + " is n + 1 or more", x.tight() > s[1].length());
            checks.holds("shiftB()" + of + " is NONE when due", (x.shiftB() == NONE) == s[1].isEmpty());
        }
    }

    static void termsAQuestionChangesNothing() {
        for (String[] s : STATES) {
            SeaweedWindows x = made(s[0], s[1]);
            int m = s[0].length();
            int n = s[1].length();
            x.commonB(0, n);
            x.commonA(0, m);
            x.commonEnd(m, n);
            x.commonBegin(m, n);
            x.changesB(0, n);
            x.changesA(0, m);
            x.nearest();
            x.nearestAt();
            x.shortest(m);
            x.widest(n);
            x.rotated();
            x.tight();
            wordsAre("after every question", x, s[0], s[1]);
        }
    }

    static void termsAnObjectServesFor512Calls() {
        SeaweedWindows x = made("0123", FULL_B);
        for (int call = 19; call <= 511; call++) {
            checks.due("call " + call, x.growB(call & 3), FULL);
        }
        checks.due("call 512", x.commonB(0, 14), 4);
    }

    // Promise 1: both words are empty.

    static void promise01NewObjectHasAnEmptyA() {
        checks.due("lengths()", new SeaweedWindows().lengths(), 0);
        checks.due("putA(0, 0)", new SeaweedWindows().putA(0, 0), BAD_ARG);
        checks.due("commonA(0, 1)", new SeaweedWindows().commonA(0, 1), BAD_ARG);
        checks.due("growA(3)", new SeaweedWindows().growA(3), 1);
    }

    static void promise01NewObjectHasAnEmptyB() {
        checks.due("lengths()", new SeaweedWindows().lengths(), 0);
        checks.due("shiftB()", new SeaweedWindows().shiftB(), NONE);
        checks.due("commonB(0, 1)", new SeaweedWindows().commonB(0, 1), BAD_ARG);
        checks.due("growB(3)", new SeaweedWindows().growB(3), 1);
    }

    static void promise01NewObjectIsEmptyBesideAFullOne() {
        SeaweedWindows full = made(FULL_A, FULL_B);
        wordsAre("when new", new SeaweedWindows(), "", "");
        wordsAre("when older", full, FULL_A, FULL_B);
    }

    // Promise 2: growA.

    static void promise02GrowALetterBelow0IsBadArg() {
        for (int c : BELOW_0) {
            growARefused("", c, BAD_ARG);
            growARefused("32", c, BAD_ARG);
        }
    }

    static void promise02GrowALetterAbove3IsBadArg() {
        for (int c : ABOVE_3) {
            growARefused("", c, BAD_ARG);
            growARefused("32", c, BAD_ARG);
        }
    }

    static void promise02GrowATakesEveryLetter() {
        SeaweedWindows x = new SeaweedWindows();
        for (int c = 0; c <= 3; c++) {
            checks.due("growA(" + c + ")", x.growA(c), c + 1);
        }
        wordsAre("after growA", x, "0123", "");
    }

    static void promise02GrowAOfEmptyAAnswers1() {
        checks.due("growA(2) of empty A", made("", FULL_B).growA(2), 1);
    }

    static void promise02GrowATakesTheTenthLetter() {
        SeaweedWindows x = made("012301230", "");
        checks.due("growA(3) of nine letters", x.growA(3), 10);
        wordsAre("after the tenth letter", x, "0123012303", "");
    }

    static void promise02GrowATheEleventhLetterIsFull() {
        for (int c = 0; c <= 3; c++) {
            growARefused(FULL_A, c, FULL);
        }
    }

    static void promise02GrowABadLetterIsTestedBeforeFull() {
        for (int c : BELOW_0) {
            growARefused(FULL_A, c, BAD_ARG);
        }
        for (int c : ABOVE_3) {
            growARefused(FULL_A, c, BAD_ARG);
        }
    }

    static void promise02GrowAIsRefusedAgainAndAgain() {
        SeaweedWindows x = made(FULL_A, "");
        for (int time = 0; time < 20; time++) {
            checks.due("growA(1) when full", x.growA(1), FULL);
            checks.due("growA(4) when full", x.growA(4), BAD_ARG);
        }
        wordsAre("after many refused calls", x, FULL_A, "");
    }

    static void promise02GrowAGoesOnAfterARefusedCall() {
        SeaweedWindows x = made("01", "");
        checks.due("growA(-1)", x.growA(-1), BAD_ARG);
        checks.due("growA(2)", x.growA(2), 3);
        checks.due("growA(4)", x.growA(4), BAD_ARG);
        checks.due("growA(3)", x.growA(3), 4);
        wordsAre("after refused and taken letters", x, "0123", "");
    }

    static void promise02GrowAIsNotHinderedByAFullB() {
        SeaweedWindows x = made("", FULL_B);
        for (int i = 0; i < 10; i++) {
            checks.due("growA(1)", x.growA(1), i + 1);
        }
        wordsAre("after growA", x, "1111111111", FULL_B);
    }

    static void promise02GrowAStaysFullAfterShiftB() {
        SeaweedWindows x = made(FULL_A, FULL_B);
        x.shiftB();
        checks.due("growA(0) after shiftB", x.growA(0), FULL);
    }

    // Promise 3: growB.

    static void promise03GrowBLetterBelow0IsBadArg() {
        for (int c : BELOW_0) {
            growBRefused("", c, BAD_ARG);
            growBRefused("32", c, BAD_ARG);
        }
    }

    static void promise03GrowBLetterAbove3IsBadArg() {
        for (int c : ABOVE_3) {
            growBRefused("", c, BAD_ARG);
            growBRefused("32", c, BAD_ARG);
        }
    }

    static void promise03GrowBTakesEveryLetter() {
        SeaweedWindows x = new SeaweedWindows();
        for (int c = 0; c <= 3; c++) {
            checks.due("growB(" + c + ")", x.growB(c), c + 1);
        }
        wordsAre("after growB", x, "", "0123");
    }

    static void promise03GrowBOfEmptyBAnswers1() {
        checks.due("growB(2) of empty B", made(FULL_A, "").growB(2), 1);
    }

    static void promise03GrowBTakesTheEleventhLetter() {
        SeaweedWindows x = made("", "0123012301");
        checks.due("growB(3) of ten letters", x.growB(3), 11);
        wordsAre("after the eleventh letter", x, "", "01230123013");
    }

    static void promise03GrowBTakesTheFourteenthLetter() {
        SeaweedWindows x = made("", "0123012301230");
        checks.due("growB(3) of thirteen letters", x.growB(3), 14);
        wordsAre("after the fourteenth letter", x, "", "01230123012303");
    }

    static void promise03GrowBTheFifteenthLetterIsFull() {
        for (int c = 0; c <= 3; c++) {
            growBRefused(FULL_B, c, FULL);
        }
    }

    static void promise03GrowBBadLetterIsTestedBeforeFull() {
        for (int c : BELOW_0) {
            growBRefused(FULL_B, c, BAD_ARG);
        }
        for (int c : ABOVE_3) {
            growBRefused(FULL_B, c, BAD_ARG);
        }
    }

    static void promise03GrowBIsRefusedAgainAndAgain() {
        SeaweedWindows x = made("", FULL_B);
        for (int time = 0; time < 20; time++) {
            checks.due("growB(1) when full", x.growB(1), FULL);
            checks.due("growB(4) when full", x.growB(4), BAD_ARG);
        }
        wordsAre("after many refused calls", x, "", FULL_B);
    }

    static void promise03GrowBGoesOnAfterARefusedCall() {
        SeaweedWindows x = made("", "01");
        checks.due("growB(-1)", x.growB(-1), BAD_ARG);
        checks.due("growB(2)", x.growB(2), 3);
        checks.due("growB(4)", x.growB(4), BAD_ARG);
        checks.due("growB(3)", x.growB(3), 4);
        wordsAre("after refused and taken letters", x, "", "0123");
    }

    static void promise03GrowBIsNotHinderedByAFullA() {
        SeaweedWindows x = made(FULL_A, "");
        for (int i = 0; i < 14; i++) {
            checks.due("growB(1)", x.growB(1), i + 1);
        }
        wordsAre("after growB", x, FULL_A, "11111111111111");
    }

    static void promise03GrowBIsFullNoMoreAfterShiftB() {
        SeaweedWindows x = made("", FULL_B);
        checks.due("shiftB() of a full B", x.shiftB(), 0);
        checks.due("growB(3) after shiftB", x.growB(3), 14);
        checks.due("growB(3) when full again", x.growB(3), FULL);
        wordsAre("after shiftB and growB", x, "", "12301230123013");
    }

    // Promise 4: putA.

    static void promise04PutAPlaceBelow0IsBadArg() {
        for (int i : BELOW_0) {
            for (int c = 0; c <= 3; c++) {
                putARefused("2310", i, c);
                putARefused(FULL_A, i, c);
            }
        }
    }

    static void promise04PutAPlaceAtOrAboveTheLengthIsBadArg() {
        for (int c = 0; c <= 3; c++) {
            for (int i : new int[] {4, 5, 9, 10, 13, 14, MOST - 1, MOST}) {
                putARefused("2310", i, c);
            }
        }
    }

    static void promise04PutAEmptyAHasNoPlace() {
        for (int i : new int[] {LEAST, -1, 0, 1, 9, 10, MOST}) {
            putARefused("", i, 0);
            putARefused("", i, 3);
        }
    }

    static void promise04PutAFullAHasThePlaces0To9() {
        SeaweedWindows x = made(FULL_A, "");
        for (int i = 0; i < 10; i++) {
            checks.due("putA(" + i + ", 3)", x.putA(i, 3), i & 3);
        }
        wordsAre("after ten times putA", x, "3333333333", "");
        putARefused(FULL_A, 10, 3);
        putARefused(FULL_A, 11, 3);
    }

    static void promise04PutALetterBelow0IsBadArg() {
        for (int c : BELOW_0) {
            putARefused("2310", 0, c);
            putARefused("2310", 3, c);
        }
    }

    static void promise04PutALetterAbove3IsBadArg() {
        for (int c : ABOVE_3) {
            putARefused("2310", 0, c);
            putARefused("2310", 3, c);
        }
    }

    static void promise04PutAPlaceAndLetterBothWrongIsBadArg() {
        putARefused("2310", -1, -1);
        putARefused("2310", 4, 4);
        putARefused("2310", -1, 4);
        putARefused("2310", 4, -1);
        putARefused("", 0, 4);
        putARefused(FULL_A, LEAST, MOST);
        putARefused(FULL_A, MOST, LEAST);
    }

    static void promise04PutATakesEveryLetterAtTheFirstAndTheLastPlace() {
        SeaweedWindows x = made("2310", "");
        int first = 2;
        int last = 0;
        for (int c = 0; c <= 3; c++) {
            checks.due("putA(0, " + c + ")", x.putA(0, c), first);
            checks.due("putA(3, " + c + ")", x.putA(3, c), last);
            first = c;
            last = c;
        }
        wordsAre("after putA at both ends", x, "3313", "");
    }

    static void promise04PutAOfTheSameLetterAnswersIt() {
        SeaweedWindows x = made("2310", "");
        checks.due("putA(1, 3)", x.putA(1, 3), 3);
        wordsAre("after putA of the same letter", x, "2310", "");
    }

    static void promise04PutAAPlaceOfBIsNoPlaceOfA() {
        putARefused("2", 1, 0);
        putARefused("23", 13, 0);
    }

    static void promise04PutAAPlaceThatClearTookIsNoPlace() {
        SeaweedWindows x = made(FULL_A, "");
        x.clear();
        checks.due("putA(0, 1) after clear", x.putA(0, 1), BAD_ARG);
        x.growA(3);
        checks.due("putA(1, 1) after clear and growA", x.putA(1, 1), BAD_ARG);
        checks.due("putA(0, 1) after clear and growA", x.putA(0, 1), 3);
    }

    static void promise04PutADoesNotMakeRoomNorLength() {
        SeaweedWindows x = made(FULL_A, "");
        x.putA(9, 0);
        checks.due("growA(0) after putA", x.growA(0), FULL);
        checks.due("lengths() after putA", x.lengths(), 10);
    }

    // Promise 5: shiftB.

    static void promise05ShiftBOfEmptyBIsNone() {
        refused("shiftB()", "", "", x -> x.shiftB(), NONE);
        refused("shiftB()", FULL_A, "", x -> x.shiftB(), NONE);
    }

    static void promise05ShiftBTheOnlyLetterLeavesBEmpty() {
        for (int c = 0; c <= 3; c++) {
            SeaweedWindows x = made("21", "" + c);
            checks.due("shiftB() of one letter", x.shiftB(), c);
            wordsAre("after the only letter went", x, "21", "");
        }
    }

    static void promise05ShiftBGrownLettersStandFirstAfterARefusedCall() {
        SeaweedWindows x = new SeaweedWindows();
        checks.due("shiftB() when new", x.shiftB(), NONE);
        checks.due("growB(2)", x.growB(2), 1);
        checks.due("shiftB()", x.shiftB(), 2);
        checks.due("shiftB() when empty again", x.shiftB(), NONE);
        checks.due("growB(3)", x.growB(3), 1);
        wordsAre("after shiftB when empty", x, "", "3");
    }

    static void promise05ShiftBEmptiesAFullB() {
        SeaweedWindows x = made(FULL_A, FULL_B);
        for (int i = 0; i < 14; i++) {
            checks.due("shiftB() " + i, x.shiftB(), i & 3);
            checks.due("lengths() after shiftB " + i, x.lengths(), 10 + 16 * (13 - i));
        }
        checks.due("shiftB() of the emptied B", x.shiftB(), NONE);
        wordsAre("after B went", x, FULL_A, "");
    }

    static void promise05ShiftBAndGrowBGoRoundManyTimes() {
        SeaweedWindows x = made("0123", FULL_B);
        for (int round = 0; round < 200; round++) {
            checks.due("shiftB() in round " + round, x.shiftB(), round & 3);
            checks.due("growB() in round " + round, x.growB(round + 14 & 3), 14);
        }
        checks.due("growB(0) after the rounds", x.growB(0), FULL);
        checks.due("commonB(0, 14) after the rounds", x.commonB(0, 14), 4);
        checks.due("commonB(1, 4) after the rounds", x.commonB(1, 4), 3);
        checks.due("rotated() after the rounds", x.rotated(), 4);
        wordsAre("after the rounds", x, "0123", FULL_B);
    }

    static void promise05ShiftBAndGrowBGoRoundAtEveryLength() {
        for (int n = 0; n <= 13; n++) {
            SeaweedWindows x = made("", FULL_B.substring(0, n));
            for (int round = 0; round < 30; round++) {
                checks.due("growB() in round " + round, x.growB(n + round & 3), n + 1);
                checks.due("shiftB() in round " + round, x.shiftB(), round & 3);
            }
            checks.due("lengths() after the rounds", x.lengths(), 16 * n);
        }
    }

    // Promise 6: clear.

    static void promise06ClearOfFullWords() {
        SeaweedWindows x = made(FULL_A, FULL_B);
        x.clear();
        wordsAre("after clear", x, "", "");
    }

    static void promise06ClearOfEmptyWords() {
        SeaweedWindows x = new SeaweedWindows();
        x.clear();
        x.clear();
        wordsAre("after clear twice", x, "", "");
    }

    static void promise06ClearOfOneEmptyWord() {
        SeaweedWindows x = made("01", "");
        x.clear();
        wordsAre("after clear of A alone", x, "", "");
        SeaweedWindows y = made("", "01");
        y.clear();
        wordsAre("after clear of B alone", y, "", "");
    }

    static void promise06ClearLeavesRoomForTenAndFourteenLetters() {
        SeaweedWindows x = made(FULL_A, FULL_B);
        x.clear();
        for (int i = 0; i < 10; i++) {
            checks.due("growA(2) after clear", x.growA(2), i + 1);
        }
        for (int i = 0; i < 14; i++) {
            checks.due("growB(3) after clear", x.growB(3), i + 1);
        }
        checks.due("growA(2) when full again", x.growA(2), FULL);
        checks.due("growB(3) when full again", x.growB(3), FULL);
        wordsAre("after clear and growing", x, "2222222222", "33333333333333");
    }

    static void promise06ClearLeavesNoLetterBehind() {
        SeaweedWindows x = made("0000000000", "00000000000000");
        x.clear();
        x.growA(1);
        x.growB(2);
        checks.due("commonB(0, 1) after clear", x.commonB(0, 1), 0);
        checks.due("nearest() after clear", x.nearest(), 1);
        checks.due("rotated() after clear", x.rotated(), 0);
        checks.due("tight() after clear", x.tight(), 2);
        checks.due("commonB(0, 2) after clear", x.commonB(0, 2), BAD_ARG);
        checks.due("commonA(0, 2) after clear", x.commonA(0, 2), BAD_ARG);
    }

    static void promise06ClearAfterShiftB() {
        SeaweedWindows x = made("", FULL_B);
        x.shiftB();
        x.shiftB();
        x.clear();
        for (int i = 0; i < 14; i++) {
            checks.due("growB(" + (3 - (i & 3)) + ") after clear", x.growB(3 - (i & 3)), i + 1);
        }
        checks.due("growB(0) when full again", x.growB(0), FULL);
        wordsAre("after shiftB, clear and growing", x, "", "32103210321032");
    }

    // Promise 7: lengths.

    static void promise07LengthsOfEmptyWords() {
        checks.due("lengths()", made("", "").lengths(), 0);
    }

    static void promise07LengthsOfEveryPairOfLengths() {
        for (int m = 0; m <= 10; m++) {
            for (int n = 0; n <= 14; n++) {
                SeaweedWindows x = made(FULL_A.substring(0, m), FULL_B.substring(0, n));
                checks.due("lengths() of " + m + " and " + n + " letters", x.lengths(), m + 16 * n);
            }
        }
    }

    static void promise07LengthsOfFullWords() {
        checks.due("lengths()", made(FULL_A, FULL_B).lengths(), 234);
    }

    static void promise07LengthsStayAfterRefusedCalls() {
        SeaweedWindows x = made(FULL_A, FULL_B);
        x.growA(0);
        x.growB(0);
        x.growA(4);
        x.growB(-1);
        x.putA(10, 0);
        checks.due("lengths() after refused calls", x.lengths(), 234);
        SeaweedWindows y = new SeaweedWindows();
        y.shiftB();
        checks.due("lengths() after a refused shiftB", y.lengths(), 0);
    }

    public static void main(String[] args) throws IllegalAccessException {
        runAll(EdgesOfWordsTest.class);
    }
}
