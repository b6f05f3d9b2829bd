import java.util.ArrayDeque;
import java.util.HashMap;
import java.util.Map;

/**
 * The document's definitions, taken word for word and without regard to speed. Words are
 * strings of the digits 0 to 3.
 */
final class Model {
    static final int BAD_ARG = -1;
    static final int FULL = -2;
    static final int NONE = -4;

    String a = "";
    String b = "";

    private final Map<String, Integer> known = new HashMap<>();

    static boolean isSubword(String u, String v) {
        int at = 0;
        for (int y = 0; y < v.length() && at < u.length(); y++) {
            if (v.charAt(y) == u.charAt(at)) {
                at++;
            }
        }
        return at == u.length();
    }

    /** Tries every subword of u. */
    static int common(String u, String v) {
        int best = 0;
        for (int set = 0; set < 1 << u.length(); set++) {
            if (Integer.bitCount(set) > best && isSubword(pick(u, set), v)) {
                best = Integer.bitCount(set);
            }
        }
        return best;
    }

    private static String pick(String u, int set) {
        StringBuilder out = new StringBuilder();
        for (int x = 0; x < u.length(); x++) {
            if ((set >> x & 1) == 1) {
                out.append(u.charAt(x));
            }
        }
        return out.toString();
    }

    /** Takes the steps of the document one by one, breadth first: for short words alone. */
    static int changesByWalking(String u, String v) {
        int longest = Math.max(u.length(), v.length()) + 1;
        Map<String, Integer> far = new HashMap<>();
        ArrayDeque<String> next = new ArrayDeque<>();
        far.put(u, 0);
        next.add(u);
        while (!far.containsKey(v)) {
            String w = next.remove();
            for (int x = 0; x <= w.length(); x++) {
                for (char c = '0'; c <= '3'; c++) {
                    if (w.length() < longest) {
                        reach(far, next, w, w.substring(0, x) + c + w.substring(x));
                    }
                    if (x < w.length()) {
                        reach(far, next, w, w.substring(0, x) + c + w.substring(x + 1));
                    }
                }
                if (x < w.length()) {
                    reach(far, next, w, w.substring(0, x) + w.substring(x + 1));
                }
            }
        }
        return far.get(v);
    }

    private static void reach(Map<String, Integer> far, ArrayDeque<String> next, String from, String to) {
        if (!far.containsKey(to)) {
            far.put(to, far.get(from) + 1);
            next.add(to);
        }
    }

    /** What becomes of the first letters: for words of any length. */
    static int changes(String u, String v) {
        int[][] seen = new int[u.length() + 1][v.length() + 1];
        return changesFrom(u, v, 0, 0, seen);
    }

    private static int changesFrom(String u, String v, int x, int y, int[][] seen) {
        if (x == u.length() || y == v.length()) {
            return u.length() - x + v.length() - y;
        }
        if (seen[x][y] == 0) {
            int takenOut = 1 + changesFrom(u, v, x + 1, y, seen);
            int putIn = 1 + changesFrom(u, v, x, y + 1, seen);
            int kept = (u.charAt(x) == v.charAt(y) ? 0 : 1) + changesFrom(u, v, x + 1, y + 1, seen);
            seen[x][y] = 1 + Math.min(kept, Math.min(takenOut, putIn));
        }
        return seen[x][y] - 1;
    }

    static boolean isLetter(int c) {
        return 0 <= c && c <= 3;
    }

    private static boolean isStretch(int i, int j, String w) {
        return 0 <= i && i <= j && j <= w.length();
    }

    private boolean areLengths(int k, int j) {
        return 0 <= k && k <= a.length() && 0 <= j && j <= b.length();
    }

    private int commonWithA(String v) {
        return known.computeIfAbsent(v, w -> common(a, w));
    }

    private void change(String newA, String newB) {
        if (!newA.equals(a)) {
            known.clear();
        }
        a = newA;
        b = newB;
    }

    int growA(int c) {
        if (!isLetter(c)) {
            return BAD_ARG;
        }
        if (a.length() == 10) {
            return FULL;
        }
        change(a + c, b);
        return a.length();
    }

    int growB(int c) {
        if (!isLetter(c)) {
            return BAD_ARG;
        }
        if (b.length() == 14) {
            return FULL;
        }
        change(a, b + c);
        return b.length();
    }

    int putA(int i, int c) {
        if (i < 0 || i >= a.length() || !isLetter(c)) {
            return BAD_ARG;
        }
        int before = a.charAt(i) - '0';
        change(a.substring(0, i) + c + a.substring(i + 1), b);
        return before;
    }

    int shiftB() {
        if (b.isEmpty()) {
            return NONE;
        }
        int first = b.charAt(0) - '0';
        change(a, b.substring(1));
        return first;
    }

    void clear() {
        change("", "");
    }

    int lengths() {
        return a.length() + 16 * b.length();
    }

    int commonB(int i, int j) {
        return isStretch(i, j, b) ? commonWithA(b.substring(i, j)) : BAD_ARG;
    }

    int commonA(int i, int j) {
        return isStretch(i, j, a) ? common(a.substring(i, j), b) : BAD_ARG;
    }

    int commonEnd(int k, int j) {
        return areLengths(k, j) ? common(a.substring(a.length() - k), b.substring(0, j)) : BAD_ARG;
    }

    int commonBegin(int k, int j) {
        return areLengths(k, j) ? common(a.substring(0, k), b.substring(b.length() - j)) : BAD_ARG;
    }

    int changesB(int i, int j) {
        return isStretch(i, j, b) ? changes(a, b.substring(i, j)) : BAD_ARG;
    }

    int changesA(int i, int j) {
        return isStretch(i, j, a) ? changes(a.substring(i, j), b) : BAD_ARG;
    }

    int nearest() {
        int least = Integer.MAX_VALUE;
        for (int i = 0; i <= b.length(); i++) {
            for (int j = i; j <= b.length(); j++) {
                least = Math.min(least, changesB(i, j));
            }
        }
        return least;
    }

    int nearestAt() {
        int least = nearest();
        for (int i = 0; i <= b.length(); i++) {
            for (int j = i; j <= b.length(); j++) {
                if (changesB(i, j) == least) {
                    return 16 * i + j;
                }
            }
        }
        throw new IllegalStateException("the least is nowhere");
    }

    int shortest(int k) {
        if (k < 1) {
            return 0;
        }
        int least = Integer.MAX_VALUE;
        for (int i = 0; i <= b.length(); i++) {
            for (int j = i; j <= b.length(); j++) {
                if (commonB(i, j) >= k) {
                    least = Math.min(least, j - i);
                }
            }
        }
        return least == Integer.MAX_VALUE ? NONE : least;
    }

    int widest(int w) {
        if (w < 0 || w > b.length()) {
            return NONE;
        }
        int greatest = 0;
        for (int i = 0; i + w <= b.length(); i++) {
            greatest = Math.max(greatest, commonB(i, i + w));
        }
        return greatest;
    }

    int rotated() {
        int greatest = 0;
        for (int i = 0; i < b.length(); i++) {
            greatest = Math.max(greatest, commonWithA(b.substring(i) + b.substring(0, i)));
        }
        return greatest;
    }

    int tight() {
        int count = 0;
        for (int i = 0; i <= b.length(); i++) {
            for (int j = i; j <= b.length(); j++) {
                count += isTight(i, j) ? 1 : 0;
            }
        }
        return count;
    }

    private boolean isTight(int i, int j) {
        for (int k = i; k <= j; k++) {
            for (int l = k; l <= j; l++) {
                boolean isOther = k != i || l != j;
                if (isOther && commonB(i, j) <= commonB(k, l)) {
                    return false;
                }
            }
        }
        return true;
    }
}
