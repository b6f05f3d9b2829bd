import java.lang.reflect.InvocationTargetException;
import java.lang.reflect.Method;
import java.util.Arrays;
import java.util.Comparator;
import java.util.function.ToIntFunction;

/** What the tests by promise share: making words, reading them out again, and running tests by their names. */
abstract class Cases {
    static final int BAD_ARG = -1;
    static final int FULL = -2;
    static final int NONE = -4;
    static final int LEAST = Integer.MIN_VALUE;
    static final int MOST = Integer.MAX_VALUE;
    static final String FULL_A = "0123012301";
    static final String FULL_B = "01230123012301";
    static final Checks checks = new Checks();

    static SeaweedWindows made(String a, String b) {
        SeaweedWindows x = new SeaweedWindows();
        for (int i = 0; i < a.length(); i++) {
            x.growA(a.charAt(i) - '0');
        }
        for (int i = 0; i < b.length(); i++) {
            x.growB(b.charAt(i) - '0');
        }
        return x;
    }

    /** Reads both words out of x; B is empty afterwards and A all 0. */
    static void wordsAre(String when, SeaweedWindows x, String a, String b) {
        checks.due("lengths() " + when, x.lengths(), a.length() + 16 * b.length());
        for (int i = 0; i < a.length(); i++) {
            checks.due("letter " + i + " of A " + when, x.putA(i, 0), a.charAt(i) - '0');
        }
        for (int i = 0; i < b.length(); i++) {
            checks.due("letter " + i + " of B " + when, x.shiftB(), b.charAt(i) - '0');
        }
        checks.due("B's end " + when, x.shiftB(), NONE);
    }

    /**
     * With every letter c of both words turned into 3 - c the call is refused all the same; a refused call that
     * writes a letter is then seen even if it writes the one that stood there.
     */
    static void refused(String name, String a, String b, ToIntFunction<SeaweedWindows> call, int code) {
        refusedOnce(name, a, b, call, code);
        refusedOnce(name, turnedLetters(a), turnedLetters(b), call, code);
    }

    private static String turnedLetters(String word) {
        StringBuilder out = new StringBuilder();
        for (int i = 0; i < word.length(); i++) {
            out.append(3 - (word.charAt(i) - '0'));
        }
        return out.toString();
    }

    /** Makes the call on an object of its own, as reading the words out afterwards uses the object up. */
    private static void refusedOnce(String name, String a, String b, ToIntFunction<SeaweedWindows> call, int code) {
        SeaweedWindows x = made(a, b);
        String of = name + " of " + a + " and " + b;
        checks.due(of, call.applyAsInt(x), code);
        sameAnswers("after the refused " + of, x, made(a, b));
        wordsAre("after the refused " + of, x, a, b);
    }

    private static void sameAnswers(String when, SeaweedWindows x, SeaweedWindows fresh) {
        checks.due("nearest() " + when, x.nearest(), fresh.nearest());
        checks.due("nearestAt() " + when, x.nearestAt(), fresh.nearestAt());
        checks.due("rotated() " + when, x.rotated(), fresh.rotated());
        checks.due("tight() " + when, x.tight(), fresh.tight());
        for (int k = 0; k <= 15; k++) {
            checks.due("shortest(" + k + ") " + when, x.shortest(k), fresh.shortest(k));
            checks.due("widest(" + k + ") " + when, x.widest(k), fresh.widest(k));
        }
    }

    /** Runs every method of the class whose name begins with promise or terms; one that looks at nothing fails. */
    static void runAll(Class<?> tests) throws IllegalAccessException {
        Method[] methods = tests.getDeclaredMethods();
        Arrays.sort(methods, Comparator.comparing(Method::getName));
        for (Method method : methods) {
            String name = method.getName();
            if (name.startsWith("promise") || name.startsWith("terms")) {
                runOne(name, method);
            }
        }
        checks.end();
    }

    private static void runOne(String name, Method method) throws IllegalAccessException {
        checks.begin(name);
        try {
            method.invoke(null);
        } catch (InvocationTargetException thrown) {
            checks.holds("no throw of " + thrown.getCause(), false);
        }
        checks.finish();
    }
}
