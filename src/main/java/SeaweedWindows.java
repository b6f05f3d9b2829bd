public final class SeaweedWindows {
    public static final int BAD_ARG = -1;
    public static final int FULL = -2;
    public static final int NONE = -4;

    private static final int LETTERS = 4;
    private static final int MOST_A = 10;
    private static final int MOST_B = 14;
    // One cell more than B has letters: the first cell stands for the empty word.
    private static final int ROW_CELLS = 15;

    private final int[] a = new int[MOST_A];
    private final int[] b = new int[MOST_B];
    private final int[] row = new int[ROW_CELLS];
    private int m;
    private int n;

    public SeaweedWindows() {
        m = 0;
        n = 0;
    }

    public int growA(int c) {
        if (!isLetter(c)) {
            return BAD_ARG;
        }
        if (m >= MOST_A) {
            return FULL;
        }
        a[m] = c;
        m++;
        return m;
    }

    public int growB(int c) {
        if (!isLetter(c)) {
            return BAD_ARG;
        }
        if (n >= MOST_B) {
            return FULL;
        }
        b[n] = c;
        n++;
        return n;
    }

    public int putA(int i, int c) {
        if (i < 0 || i >= m || !isLetter(c)) {
            return BAD_ARG;
        }
        int before = a[i];
        a[i] = c;
        return before;
    }

    public int shiftB() {
        if (n == 0) {
            return NONE;
        }
        int first = b[0];
        for (int y = 1; y < n; y++) {
            b[y - 1] = b[y];
        }
        n--;
        return first;
    }

    public void clear() {
        m = 0;
        n = 0;
    }

    public int lengths() {
        return m + 16 * n;
    }

    public int commonB(int i, int j) {
        if (!isStretch(i, j, n)) {
            return BAD_ARG;
        }
        return common(0, m, i, j);
    }

    public int commonA(int i, int j) {
        if (!isStretch(i, j, m)) {
            return BAD_ARG;
        }
        return common(i, j, 0, n);
    }

    public int commonEnd(int k, int j) {
        if (k < 0 || k > m || j < 0 || j > n) {
            return BAD_ARG;
        }
        return common(m - k, m, 0, j);
    }

    public int commonBegin(int k, int j) {
        if (k < 0 || k > m || j < 0 || j > n) {
            return BAD_ARG;
        }
        return common(0, k, n - j, n);
    }

    public int changesB(int i, int j) {
        if (!isStretch(i, j, n)) {
            return BAD_ARG;
        }
        return changes(0, m, i, j);
    }

    public int changesA(int i, int j) {
        if (!isStretch(i, j, m)) {
            return BAD_ARG;
        }
        return changes(i, j, 0, n);
    }

    public int nearest() {
        // The empty stretch is always there, and A is m changes away from it.
        int least = m;
        for (int i = 0; i <= n; i++) {
            for (int j = i; j <= n; j++) {
                int found = changes(0, m, i, j);
                least = smaller(least, found);
            }
        }
        return least;
    }

    public int nearestAt() {
        // The stretch (0, 0) comes first, so only a truly nearer one may take its place.
        int least = m;
        int at = 0;
        for (int i = 0; i <= n; i++) {
            for (int j = i; j <= n; j++) {
                int found = changes(0, m, i, j);
                if (found < least) {
                    least = found;
                    at = 16 * i + j;
                }
            }
        }
        return at;
    }

    public int shortest(int k) {
        for (int w = 0; w <= n; w++) {
            int found = greatestOfWidth(w);
            if (found >= k) {
                return w;
            }
        }
        return NONE;
    }

    public int widest(int w) {
        if (w < 0 || w > n) {
            return NONE;
        }
        return greatestOfWidth(w);
    }

    public int rotated() {
        int greatest = 0;
        for (int start = 0; start < n; start++) {
            int found = common(0, m, start, start + n);
            greatest = larger(greatest, found);
        }
        return greatest;
    }

    public int tight() {
        int count = 0;
        for (int i = 0; i <= n; i++) {
            for (int j = i; j <= n; j++) {
                if (isTight(i, j)) {
                    count++;
                }
            }
        }
        return count;
    }

    private static boolean isLetter(int c) {
        return c >= 0 && c < LETTERS;
    }

    private static boolean isStretch(int i, int j, int length) {
        return i >= 0 && i <= j && j <= length;
    }

    private static int larger(int x, int y) {
        return x > y ? x : y;
    }

    private static int smaller(int x, int y) {
        return x < y ? x : y;
    }

    // A rotation of B is read as a stretch that runs on past the end of B.
    private int letterB(int place) {
        return place < n ? b[place] : b[place - n];
    }

    // Needs 0 <= aFrom <= aTo <= m and 0 <= bFrom <= bTo <= bFrom + n, and bFrom below n
    // unless bFrom = bTo.
    private int common(int aFrom, int aTo, int bFrom, int bTo) {
        int width = bTo - bFrom;
        for (int y = 0; y <= width; y++) {
            row[y] = 0;
        }
        for (int x = aFrom; x < aTo; x++) {
            int corner = 0;
            for (int y = 1; y <= width; y++) {
                int above = row[y];
                if (a[x] == letterB(bFrom + y - 1)) {
                    row[y] = corner + 1;
                } else {
                    row[y] = larger(above, row[y - 1]);
                }
                corner = above;
            }
        }
        return row[width];
    }

    // Needs what common needs.
    private int changes(int aFrom, int aTo, int bFrom, int bTo) {
        int width = bTo - bFrom;
        for (int y = 0; y <= width; y++) {
            row[y] = y;
        }
        for (int x = aFrom; x < aTo; x++) {
            int corner = row[0];
            row[0] = corner + 1;
            for (int y = 1; y <= width; y++) {
                int above = row[y];
                if (a[x] == letterB(bFrom + y - 1)) {
                    row[y] = corner;
                } else {
                    int beside = smaller(above, row[y - 1]);
                    row[y] = smaller(beside, corner) + 1;
                }
                corner = above;
            }
        }
        return row[width];
    }

    // Needs 0 <= w <= n.
    private int greatestOfWidth(int w) {
        int greatest = 0;
        for (int i = 0; i + w <= n; i++) {
            int found = common(0, m, i, i + w);
            greatest = larger(greatest, found);
        }
        return greatest;
    }

    // A stretch has at least as much in common with A as any stretch inside it, so it is
    // enough to look at the two that lack one letter at an end.
    private boolean isTight(int i, int j) {
        if (i == j) {
            return true;
        }
        int whole = common(0, m, i, j);
        int lessFirst = common(0, m, i + 1, j);
        int lessLast = common(0, m, i, j - 1);
        return whole > lessFirst && whole > lessLast;
    }
}
