import java.util.NoSuchElementException;
import java.util.function.IntSupplier;

/** What all tests share: they count what was as due, and print what was not. */
final class Due {
    static final int THROWN = Integer.MIN_VALUE + 77;
    static int passed;
    static int failed;

    private Due() {
    }

    static void is(String what, long got, long want) {
        if (got == want) {
            passed++;
        } else {
            failed++;
            System.out.println(what + " answered " + got + ", due is " + want);
        }
    }

    static void is(String what, boolean got, boolean want) {
        is(what, got ? 1 : 0, want ? 1 : 0);
    }

    static void isThrown(String what, IntSupplier call) {
        is(what + " throws", answer(call), THROWN);
    }

    /** What a call answers; THROWN, if it throws NoSuchElementException. */
    static int answer(IntSupplier call) {
        try {
            return call.getAsInt();
        } catch (NoSuchElementException e) {
            return THROWN;
        }
    }

    static void row(String what, EachMayMissOne x, int... want) {
        is(what + ": numbers of the row", x.count(12), want.length);
        for (int i = 0; i < want.length; i++) {
            int k = i;
            is(what + ": row " + i, answer(() -> x.row(k)), want[i]);
        }
    }

    /** Puts a text behind what there is, by sign and end. */
    static void put(EachMayMissOne x, String text) {
        int length = x.count(13);
        for (int p = 0; p < text.length(); p += 4) {
            int v = 0;
            for (int i = p; i < p + 4; i++) {
                v = v << 8 | (i < text.length() ? text.charAt(i) : 0);
            }
            x.sign(v);
        }
        x.end(length + text.length());
    }

    static void close(String tests) {
        System.out.println(tests + ": " + passed + " passed, " + failed + " failed");
        if (failed > 0) {
            System.exit(1);
        }
    }
}
