import java.util.ArrayList;
import java.util.List;

/** Compares every query, and long runs of calls, with the document's definitions taken literally. */
public final class ModelTest {
    private static final int CALLS_PROMISED = 512;
    private static final Checks checks = new Checks();
    private static long seed = 20261115L;

    private static int draw(int bound) {
        seed = seed * 6364136223846793005L + 1442695040888963407L;
        return (int) ((seed >>> 33) % bound);
    }

    private static String drawWord(int length, int letters) {
        StringBuilder out = new StringBuilder();
        for (int i = 0; i < length; i++) {
            out.append(draw(letters));
        }
        return out.toString();
    }

    private static List<String> wordsUpTo(int length) {
        List<String> out = new ArrayList<>();
        out.add("");
        for (int at = 0; at < out.size(); at++) {
            String w = out.get(at);
            for (int c = 0; c <= 3 && w.length() < length; c++) {
                out.add(w + c);
            }
        }
        return out;
    }

    private static SeaweedWindows made(Model model) {
        SeaweedWindows x = new SeaweedWindows();
        model.a.chars().forEach(c -> x.growA(c - '0'));
        model.b.chars().forEach(c -> x.growB(c - '0'));
        return x;
    }

    /** Calls 8 to 13 take two arguments each. */
    private static void askPair(int promise, SeaweedWindows x, Model y, int i, int j) {
        String of = "(" + i + ", " + j + ") of " + y.a + " and " + y.b;
        switch (promise) {
            case 8 -> checks.due("commonB" + of, x.commonB(i, j), y.commonB(i, j));
            case 9 -> checks.due("commonA" + of, x.commonA(i, j), y.commonA(i, j));
            case 10 -> checks.due("commonEnd" + of, x.commonEnd(i, j), y.commonEnd(i, j));
            case 11 -> checks.due("commonBegin" + of, x.commonBegin(i, j), y.commonBegin(i, j));
            case 12 -> checks.due("changesB" + of, x.changesB(i, j), y.changesB(i, j));
            default -> checks.due("changesA" + of, x.changesA(i, j), y.changesA(i, j));
        }
    }

    private static void askOther(int promise, SeaweedWindows x, Model y, int k) {
        String of = " of " + y.a + " and " + y.b;
        switch (promise) {
            case 7 -> checks.due("lengths()" + of, x.lengths(), y.lengths());
            case 14 -> checks.due("nearest()" + of, x.nearest(), y.nearest());
            case 15 -> checks.due("nearestAt()" + of, x.nearestAt(), y.nearestAt());
            case 16 -> checks.due("shortest(" + k + ")" + of, x.shortest(k), y.shortest(k));
            case 17 -> checks.due("widest(" + k + ")" + of, x.widest(k), y.widest(k));
            case 18 -> checks.due("rotated()" + of, x.rotated(), y.rotated());
            default -> checks.due("tight()" + of, x.tight(), y.tight());
        }
    }

    private static void change(int promise, SeaweedWindows x, Model y, int i, int c) {
        String of = " of " + y.a + " and " + y.b;
        switch (promise) {
            case 2 -> checks.due("growA(" + c + ")" + of, x.growA(c), y.growA(c));
            case 3 -> checks.due("growB(" + c + ")" + of, x.growB(c), y.growB(c));
            case 4 -> checks.due("putA(" + i + ", " + c + ")" + of, x.putA(i, c), y.putA(i, c));
            case 5 -> checks.due("shiftB()" + of, x.shiftB(), y.shiftB());
            default -> {
                x.clear();
                y.clear();
            }
        }
    }

    /** Every query with every argument that is right and some around them. */
    private static void askAll(String a, String b) {
        Model model = new Model();
        model.a = a;
        model.b = b;
        int most = Math.max(a.length(), b.length()) + 1;
        for (int promise = 8; promise <= 13; promise++) {
            // An object of its own for each promise: all of them together are over 512 calls.
            SeaweedWindows x = made(model);
            for (int i = -1; i <= most; i++) {
                for (int j = -1; j <= most; j++) {
                    askPair(promise, x, model, i, j);
                }
            }
        }
        SeaweedWindows x = made(model);
        for (int k = -1; k <= most; k++) {
            askOther(16, x, model, k);
            askOther(17, x, model, k);
        }
        for (int promise : new int[] {7, 14, 15, 18, 19, 7}) {
            askOther(promise, x, model, 0);
        }
    }

    private static void modelsOfChangesAgree() {
        List<String> words = wordsUpTo(3);
        for (String u : words) {
            for (String v : words) {
                checks.due("the model's changes of " + u + " and " + v, Model.changes(u, v), Model.changesByWalking(u, v));
            }
        }
    }

    private static void allShortWords() {
        List<String> words = wordsUpTo(2);
        for (String a : words) {
            for (String b : wordsUpTo(3)) {
                askAll(a, b);
            }
        }
    }

    private static void manyLongWords() {
        for (int round = 0; round < 60; round++) {
            int letters = 1 + draw(4);
            askAll(drawWord(draw(11), letters), drawWord(draw(15), letters));
        }
        for (int letters = 1; letters <= 4; letters++) {
            askAll(drawWord(10, letters), drawWord(14, letters));
        }
    }

    /** A run of all the calls that the document promises, wrong arguments among them. */
    private static void longRun(int favoured) {
        SeaweedWindows x = new SeaweedWindows();
        Model y = new Model();
        for (int call = 0; call < CALLS_PROMISED; call++) {
            int kind = draw(24);
            int i = draw(18) - 2;
            int j = draw(18) - 2;
            int letter = draw(8) == 0 ? draw(12) - 4 : draw(4);
            if (kind < 10) {
                int promise = kind < 6 ? favoured : 2 + draw(4);
                change(promise, x, y, i, letter);
            } else if (kind == 10 && draw(8) == 0) {
                change(6, x, y, 0, 0);
            } else if (kind < 18) {
                askPair(8 + draw(6), x, y, i, j);
            } else {
                int promise = 13 + draw(7);
                askOther(promise == 13 ? 7 : promise, x, y, i);
            }
        }
    }

    public static void main(String[] args) {
        modelsOfChangesAgree();
        allShortWords();
        manyLongWords();
        for (int round = 0; round < 40; round++) {
            longRun(2 + round % 4);
        }
        checks.end();
    }
}
