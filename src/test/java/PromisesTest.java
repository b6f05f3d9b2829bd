/** For each promise: ordinary inputs, the edges that the document names, and wrong inputs. */
public final class PromisesTest extends Cases {
    private static final int[] NO_LETTERS = {-1, 4, 5, 256, -4, LEAST, MOST};

    static void termsTheConstants() {
        checks.due("BAD_ARG", SeaweedWindows.BAD_ARG, BAD_ARG);
        checks.due("FULL", SeaweedWindows.FULL, FULL);
        checks.due("NONE", SeaweedWindows.NONE, NONE);
    }

    static void promise01NewObject() {
        wordsAre("when new", new SeaweedWindows(), "", "");
        SeaweedWindows one = made("01", "23");
        SeaweedWindows other = new SeaweedWindows();
        wordsAre("beside another object", other, "", "");
        wordsAre("beside a newer object", one, "01", "23");
    }

    static void promise02GrowA() {
        SeaweedWindows x = new SeaweedWindows();
        for (int i = 0; i < 10; i++) {
            checks.due("growA " + i, x.growA(i & 3), i + 1);
        }
        for (int c = 0; c <= 3; c++) {
            checks.due("growA when full", x.growA(c), FULL);
        }
        for (int c : NO_LETTERS) {
            checks.due("growA when full of " + c, x.growA(c), BAD_ARG);
        }
        wordsAre("after growA", x, "0123012301", "");
        SeaweedWindows y = new SeaweedWindows();
        for (int c : NO_LETTERS) {
            checks.due("growA of " + c, y.growA(c), BAD_ARG);
        }
        wordsAre("after refused growA", y, "", "");
    }

    static void promise03GrowB() {
        SeaweedWindows x = new SeaweedWindows();
        for (int i = 0; i < 14; i++) {
            checks.due("growB " + i, x.growB(i & 3), i + 1);
        }
        for (int c = 0; c <= 3; c++) {
            checks.due("growB when full", x.growB(c), FULL);
        }
        for (int c : NO_LETTERS) {
            checks.due("growB when full of " + c, x.growB(c), BAD_ARG);
        }
        wordsAre("after growB", x, "", "01230123012301");
        SeaweedWindows y = new SeaweedWindows();
        for (int c : NO_LETTERS) {
            checks.due("growB of " + c, y.growB(c), BAD_ARG);
        }
        wordsAre("after refused growB", y, "", "");
    }

    static void promise04PutA() {
        SeaweedWindows x = made("0123", "3210321");
        checks.due("putA(0, 3)", x.putA(0, 3), 0);
        checks.due("putA(3, 0)", x.putA(3, 0), 3);
        checks.due("putA(1, 1)", x.putA(1, 1), 1);
        checks.due("putA(0, 2)", x.putA(0, 2), 3);
        checks.due("putA(4, 0)", x.putA(4, 0), BAD_ARG);
        checks.due("putA(-1, 0)", x.putA(-1, 0), BAD_ARG);
        checks.due("putA(least, 0)", x.putA(LEAST, 0), BAD_ARG);
        checks.due("putA(most, 0)", x.putA(MOST, 0), BAD_ARG);
        for (int c : NO_LETTERS) {
            checks.due("putA(1, " + c + ")", x.putA(1, c), BAD_ARG);
        }
        wordsAre("after putA", x, "2120", "3210321");
        checks.due("putA(0, 0) when new", new SeaweedWindows().putA(0, 0), BAD_ARG);
        SeaweedWindows full = made("0123012301", "");
        checks.due("putA(9, 2)", full.putA(9, 2), 1);
        checks.due("putA(10, 2)", full.putA(10, 2), BAD_ARG);
        wordsAre("after putA when full", full, "0123012302", "");
    }

    static void promise05ShiftB() {
        checks.due("shiftB when new", new SeaweedWindows().shiftB(), NONE);
        SeaweedWindows x = made("12", "01230123012301");
        checks.due("shiftB", x.shiftB(), 0);
        checks.due("shiftB", x.shiftB(), 1);
        checks.due("lengths after shiftB", x.lengths(), 2 + 16 * 12);
        checks.due("growB after shiftB", x.growB(3), 13);
        checks.due("growB after shiftB", x.growB(3), 14);
        checks.due("growB after shiftB", x.growB(3), FULL);
        checks.due("commonB after shiftB", x.commonB(0, 4), 1);
        wordsAre("after shiftB", x, "12", "23012301230133");
    }

    static void promise06Clear() {
        SeaweedWindows x = made("0123012301", "01230123012301");
        x.clear();
        checks.due("commonB after clear", x.commonB(0, 0), 0);
        checks.due("commonB after clear", x.commonB(0, 1), BAD_ARG);
        checks.due("changesA after clear", x.changesA(0, 1), BAD_ARG);
        checks.due("growA after clear", x.growA(2), 1);
        checks.due("growB after clear", x.growB(3), 1);
        wordsAre("after clear and growing", x, "2", "3");
        SeaweedWindows y = made("01", "23");
        y.clear();
        wordsAre("after clear", y, "", "");
        SeaweedWindows z = new SeaweedWindows();
        z.clear();
        wordsAre("after clear when new", z, "", "");
    }

    static void promise07Lengths() {
        checks.due("lengths", made("", "").lengths(), 0);
        checks.due("lengths", made("012", "").lengths(), 3);
        checks.due("lengths", made("", "012").lengths(), 48);
        checks.due("lengths", made("01", "01230").lengths(), 82);
        checks.due("lengths", made("0123012301", "01230123012301").lengths(), 234);
    }

    static void promise08CommonB() {
        SeaweedWindows x = made("0123", "32103210");
        checks.due("commonB(0, 8)", x.commonB(0, 8), 2);
        checks.due("commonB(0, 4)", x.commonB(0, 4), 1);
        checks.due("commonB(3, 5)", x.commonB(3, 5), 2);
        checks.due("commonB(8, 8)", x.commonB(8, 8), 0);
        checks.due("commonB(0, 9)", x.commonB(0, 9), BAD_ARG);
        checks.due("commonB(-1, 3)", x.commonB(-1, 3), BAD_ARG);
        checks.due("commonB(4, 3)", x.commonB(4, 3), BAD_ARG);
        checks.due("commonB(9, 9)", x.commonB(9, 9), BAD_ARG);
        checks.due("commonB(-1, -1)", x.commonB(-1, -1), BAD_ARG);
        checks.due("commonB(least, most)", x.commonB(LEAST, MOST), BAD_ARG);
        checks.due("commonB(most, most)", x.commonB(MOST, MOST), BAD_ARG);
        // A letter of A serves once, however often B has it.
        checks.due("commonB of one letter", made("0", "000").commonB(0, 3), 1);
        checks.due("commonB of the same", made("0123012301", "01230123012301").commonB(0, 14), 10);
        // The other word's length is no bound here.
        checks.due("commonB beyond m", made("0", "0000").commonB(2, 4), 1);
    }

    static void promise09CommonA() {
        SeaweedWindows x = made("32103210", "0123");
        checks.due("commonA(0, 8)", x.commonA(0, 8), 2);
        checks.due("commonA(0, 4)", x.commonA(0, 4), 1);
        checks.due("commonA(3, 5)", x.commonA(3, 5), 2);
        checks.due("commonA(8, 8)", x.commonA(8, 8), 0);
        checks.due("commonA(0, 9)", x.commonA(0, 9), BAD_ARG);
        checks.due("commonA(-1, 3)", x.commonA(-1, 3), BAD_ARG);
        checks.due("commonA(4, 3)", x.commonA(4, 3), BAD_ARG);
        checks.due("commonA(9, 9)", x.commonA(9, 9), BAD_ARG);
        checks.due("commonA(least, most)", x.commonA(LEAST, MOST), BAD_ARG);
        // B has the place 5 but A has not.
        checks.due("commonA(0, 5)", made("01", "012301").commonA(0, 5), BAD_ARG);
    }

    static void promise10CommonEnd() {
        SeaweedWindows x = made("0012", "1200");
        checks.due("commonEnd(2, 2)", x.commonEnd(2, 2), 2);
        checks.due("commonEnd(4, 4)", x.commonEnd(4, 4), 2);
        checks.due("commonEnd(1, 1)", x.commonEnd(1, 1), 0);
        checks.due("commonEnd(1, 2)", x.commonEnd(1, 2), 1);
        checks.due("commonEnd(3, 1)", x.commonEnd(3, 1), 1);
        checks.due("commonEnd(0, 4)", x.commonEnd(0, 4), 0);
        checks.due("commonEnd(4, 0)", x.commonEnd(4, 0), 0);
        checks.due("commonEnd(5, 4)", x.commonEnd(5, 4), BAD_ARG);
        checks.due("commonEnd(4, 5)", x.commonEnd(4, 5), BAD_ARG);
        checks.due("commonEnd(-1, 4)", x.commonEnd(-1, 4), BAD_ARG);
        checks.due("commonEnd(4, -1)", x.commonEnd(4, -1), BAD_ARG);
        checks.due("commonEnd(least, 0)", x.commonEnd(LEAST, 0), BAD_ARG);
        checks.due("commonEnd(0, most)", x.commonEnd(0, MOST), BAD_ARG);
        checks.due("commonEnd(3, 1) of the shorter A", made("00", "0000").commonEnd(3, 1), BAD_ARG);
        checks.due("commonEnd(1, 4) of the shorter A", made("00", "1110").commonEnd(1, 4), 1);
    }

    static void promise11CommonBegin() {
        SeaweedWindows x = made("1200", "0012");
        checks.due("commonBegin(2, 2)", x.commonBegin(2, 2), 2);
        checks.due("commonBegin(4, 4)", x.commonBegin(4, 4), 2);
        checks.due("commonBegin(1, 1)", x.commonBegin(1, 1), 0);
        checks.due("commonBegin(1, 2)", x.commonBegin(1, 2), 1);
        checks.due("commonBegin(2, 1)", x.commonBegin(2, 1), 1);
        checks.due("commonBegin(0, 4)", x.commonBegin(0, 4), 0);
        checks.due("commonBegin(4, 0)", x.commonBegin(4, 0), 0);
        checks.due("commonBegin(5, 4)", x.commonBegin(5, 4), BAD_ARG);
        checks.due("commonBegin(4, 5)", x.commonBegin(4, 5), BAD_ARG);
        checks.due("commonBegin(-1, 4)", x.commonBegin(-1, 4), BAD_ARG);
        checks.due("commonBegin(4, -1)", x.commonBegin(4, -1), BAD_ARG);
        checks.due("commonBegin(0, least)", x.commonBegin(0, LEAST), BAD_ARG);
        checks.due("commonBegin(most, 0)", x.commonBegin(MOST, 0), BAD_ARG);
        checks.due("commonBegin(3, 1) of the shorter A", made("00", "0000").commonBegin(3, 1), BAD_ARG);
        checks.due("commonBegin(1, 4) of the shorter A", made("01", "0111").commonBegin(1, 4), 1);
    }

    static void promise12ChangesB() {
        SeaweedWindows x = made("0123", "01323");
        checks.due("changesB(0, 5), one put in", x.changesB(0, 5), 1);
        checks.due("changesB(0, 4), one in another's place and one more", x.changesB(0, 4), 2);
        checks.due("changesB(0, 2), two taken out", x.changesB(0, 2), 2);
        checks.due("changesB(1, 5), one in another's place and more", x.changesB(1, 5), 2);
        checks.due("changesB(5, 5)", x.changesB(5, 5), 4);
        checks.due("changesB, another letter in place", made("000", "010").changesB(0, 3), 1);
        checks.due("changesB of empty A", made("", "0123").changesB(1, 4), 3);
        checks.due("changesB(0, 6)", x.changesB(0, 6), BAD_ARG);
        checks.due("changesB(-1, 2)", x.changesB(-1, 2), BAD_ARG);
        checks.due("changesB(3, 2)", x.changesB(3, 2), BAD_ARG);
        checks.due("changesB(6, 6)", x.changesB(6, 6), BAD_ARG);
        checks.due("changesB(least, most)", x.changesB(LEAST, MOST), BAD_ARG);
        checks.due("changesB of the longest", made("0000000000", "11111111111111").changesB(0, 14), 14);
    }

    static void promise13ChangesA() {
        SeaweedWindows x = made("01323", "0123");
        checks.due("changesA(0, 5), one taken out", x.changesA(0, 5), 1);
        checks.due("changesA(0, 4)", x.changesA(0, 4), 2);
        checks.due("changesA(0, 2), two put in", x.changesA(0, 2), 2);
        checks.due("changesA(5, 5)", x.changesA(5, 5), 4);
        checks.due("changesA, another letter in place", made("1000", "010").changesA(1, 4), 1);
        checks.due("changesA of empty B", made("0123", "").changesA(1, 4), 3);
        checks.due("changesA(0, 6)", x.changesA(0, 6), BAD_ARG);
        checks.due("changesA(-1, 2)", x.changesA(-1, 2), BAD_ARG);
        checks.due("changesA(3, 2)", x.changesA(3, 2), BAD_ARG);
        checks.due("changesA(6, 6)", x.changesA(6, 6), BAD_ARG);
        checks.due("changesA(least, most)", x.changesA(LEAST, MOST), BAD_ARG);
        checks.due("changesA of the longest", made("0000000000", "11111111111111").changesA(0, 10), 14);
        checks.due("changesA(0, 3) of the shorter A", made("01", "0123").changesA(0, 3), BAD_ARG);
    }

    static void promise14Nearest() {
        checks.due("nearest when new", made("", "").nearest(), 0);
        checks.due("nearest of empty A", made("", "012").nearest(), 0);
        checks.due("nearest of empty B", made("012", "").nearest(), 3);
        checks.due("nearest inside", made("012", "330123").nearest(), 0);
        checks.due("nearest at the end", made("012", "333012").nearest(), 0);
        checks.due("nearest, one in another's place", made("012", "330323").nearest(), 1);
        checks.due("nearest of strangers", made("000", "1111").nearest(), 3);
        checks.due("nearest of the short B", made("0123", "12").nearest(), 2);
    }

    static void promise15NearestAt() {
        checks.due("nearestAt when new", made("", "").nearestAt(), 0);
        checks.due("nearestAt of empty A", made("", "012").nearestAt(), 0);
        checks.due("nearestAt of empty B", made("012", "").nearestAt(), 0);
        checks.due("nearestAt inside", made("012", "330123").nearestAt(), 16 * 2 + 5);
        checks.due("nearestAt the first of two", made("01", "301301").nearestAt(), 16 + 3);
        checks.due("nearestAt the least end", made("01", "3033").nearestAt(), 16 + 2);
        // With nothing in common the empty stretch is as near as any other.
        checks.due("nearestAt of strangers", made("000", "1111").nearestAt(), 0);
        // The least i goes before the least length: (0, 2) and (1, 2) are both one away.
        checks.due("nearestAt the least begin", made("01", "21").nearestAt(), 2);
        checks.due("nearestAt the last letter", made("0", "11111111111110").nearestAt(), 16 * 13 + 14);
    }

    static void promise16Shortest() {
        SeaweedWindows x = made("012", "0313202312");
        checks.due("shortest(1)", x.shortest(1), 1);
        checks.due("shortest(2)", x.shortest(2), 2);
        checks.due("shortest(3)", x.shortest(3), 5);
        checks.due("shortest(4)", x.shortest(4), NONE);
        checks.due("shortest(0)", x.shortest(0), 0);
        checks.due("shortest(-1)", x.shortest(-1), 0);
        checks.due("shortest(least)", x.shortest(LEAST), 0);
        checks.due("shortest(most)", x.shortest(MOST), NONE);
        checks.due("shortest of all B", made("01", "0222222222221").shortest(2), 13);
        checks.due("shortest(0) when new", made("", "").shortest(0), 0);
        checks.due("shortest(-5) when new", made("", "").shortest(-5), 0);
        checks.due("shortest(1) when new", made("", "").shortest(1), NONE);
    }

    static void promise17Widest() {
        SeaweedWindows x = made("012", "3331033122");
        checks.due("widest(0)", x.widest(0), 0);
        checks.due("widest(1)", x.widest(1), 1);
        checks.due("widest(2)", x.widest(2), 2);
        checks.due("widest(4)", x.widest(4), 2);
        checks.due("widest(5)", x.widest(5), 3);
        checks.due("widest(10)", x.widest(10), 3);
        checks.due("widest(11)", x.widest(11), NONE);
        checks.due("widest(-1)", x.widest(-1), NONE);
        checks.due("widest(least)", x.widest(LEAST), NONE);
        checks.due("widest(most)", x.widest(MOST), NONE);
        checks.due("widest(0) when new", made("", "").widest(0), 0);
        checks.due("widest(1) when new", made("", "").widest(1), NONE);
        checks.due("widest at the end", made("01", "2222201").widest(2), 2);
        checks.due("widest(14)", made("0123012301", "01230123012301").widest(14), 10);
    }

    static void promise18Rotated() {
        checks.due("rotated when new", made("", "").rotated(), 0);
        checks.due("rotated of empty B", made("0123", "").rotated(), 0);
        checks.due("rotated of empty A", made("", "0123").rotated(), 0);
        checks.due("rotated by one", made("0123", "3012").rotated(), 4);
        checks.due("rotated by all but one", made("0123", "1230").rotated(), 4);
        checks.due("rotated by none", made("0123", "0123").rotated(), 4);
        // No rotation has a letter twice.
        checks.due("rotated of one letter", made("00", "0").rotated(), 1);
        checks.due("rotated, the wrong way about", made("0123", "3210").rotated(), 2);
        checks.due("rotated of the longest", made("0123012301", "23012301230101").rotated(), 10);
        // The letters of B that a smaller B leaves behind don't count.
        SeaweedWindows x = made("01", "3310");
        x.shiftB();
        x.shiftB();
        checks.due("rotated after shiftB", x.rotated(), 2);
    }

    static void promise19Tight() {
        checks.due("tight when new", made("", "").tight(), 1);
        checks.due("tight of empty A", made("", "0123").tight(), 5);
        checks.due("tight of empty B", made("0123", "").tight(), 1);
        checks.due("tight of strangers", made("00", "111").tight(), 4);
        // The four empty ones, (0, 1), (1, 2), (2, 3), and (0, 2).
        checks.due("tight of 01 and 010", made("01", "010").tight(), 8);
        checks.due("tight of the same", made("012", "012").tight(), 10);
        checks.due("tight of one letter", made("0", "000").tight(), 7);
        // Nothing may be left off at the begin, nor at the end: (0, 3) is tight, (0, 4) and (0, 2) aren't.
        checks.due("tight with a gap", made("01", "0312").tight(), 8);
        checks.due("tight of the longest", made("0000000000", "00000000000000").tight(), 110);
    }

    public static void main(String[] args) throws IllegalAccessException {
        runAll(PromisesTest.class);
    }
}
