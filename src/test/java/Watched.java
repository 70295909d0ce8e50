import java.lang.reflect.InvocationTargetException;
import java.lang.reflect.Method;
import java.lang.reflect.Modifier;
import java.util.ArrayList;
import java.util.List;
import java.util.NoSuchElementException;
import java.util.Set;

/** An object under test: behind each call it is looked whether all that a call of that kind must leave is as it was. */
final class Watched {
    /** What a call "answers" that throws NoSuchElementException. */
    static final long THROWN = Long.MIN_VALUE;

    static final Set<String> THROWING = Set.of("ringer", "bell", "row");
    static final Set<String> ASKING = Set.of("ringer", "bell", "order", "truth", "lead", "leads", "course", "may", "lawful",
        "covers", "rivals", "matches", "sleeps", "naps", "bound", "missed", "heard", "said", "says", "fails", "lasts", "stout",
        "weariest", "coughs", "count", "row", "comes", "reads");
    static final Set<String> READING = Set.of("tower", "method", "rule", "night", "comes", "reads");
    static final Set<String> TELLING = Set.of("round", "rounds", "night", "order", "truth", "leads", "comes", "course", "lawful",
        "covers", "rivals", "matches", "sleeps", "naps", "bound", "heard", "reads", "said", "says", "fails", "lasts", "stout",
        "weariest", "coughs");

    final EachMayMissOne x = new EachMayMissOne();

    static String told(Method m) {
        StringBuilder s = new StringBuilder(m.getName()).append('(');
        for (Class<?> type : m.getParameterTypes()) {
            s.append(s.charAt(s.length() - 1) == '(' ? "" : ",").append(type.getName());
        }
        return s.append(')').toString();
    }

    /** The public calls, always in the same order. */
    static List<Method> calls() {
        List<Method> calls = new ArrayList<>();
        for (Method m : EachMayMissOne.class.getDeclaredMethods()) {
            if (Modifier.isPublic(m.getModifiers())) {
                calls.add(m);
            }
        }
        calls.sort((a, b) -> told(a).compareTo(told(b)));
        return calls;
    }

    /** What a call answers (false counts -1, true 0); THROWN, if it throws. */
    long call(String what, Method m, Object... with) {
        List<Integer> state = state();
        List<Integer> row = row();
        int signs = x.count(13);
        long answer = answer(what, m, with);
        String name = m.getName();
        boolean isNumber = Set.of("count", "row", "ringer", "bell").contains(name);
        boolean refused = answer < 0 && !isNumber;
        boolean missingSheet = name.equals("sheet") && answer == -3;
        if (ASKING.contains(name) || refused && !missingSheet) {
            Due.is(what + " changes nothing", state().equals(state), true);
        }
        if (refused || !TELLING.contains(name)) {
            Due.is(what + " leaves the row", row().equals(row), true);
        }
        if (READING.contains(name)) {
            Due.is(what + " empties the text", x.count(13), 0);
        } else if (refused || !name.equals("sign") && !name.equals("end")) {
            Due.is(what + " leaves the text", x.count(13), signs);
        }
        return answer;
    }

    private long answer(String what, Method m, Object... with) {
        try {
            Object got = m.invoke(x, with);
            return got instanceof Boolean ? ((Boolean) got ? 0 : -1) : (Integer) got;
        } catch (InvocationTargetException e) {
            boolean mayThrow = THROWING.contains(m.getName()) && e.getCause().getClass() == NoSuchElementException.class;
            Due.is(what + " throws " + e.getCause(), mayThrow, true);
            return THROWN;
        } catch (IllegalAccessException e) {
            Due.is(what + " can't be called: " + e, true, false);
            return THROWN;
        }
    }

    /** All that shows but the text and the row. */
    private List<Integer> state() {
        List<Integer> all = new ArrayList<>();
        for (int i = 0; i < 12; i++) {
            all.add(x.count(i));
        }
        for (int k = 1; k <= 21; k++) {
            all.add(x.missed(k));
        }
        for (int i = 0; i < x.count(0); i++) {
            all.add(x.bell(i));
            for (int what = 0; what < 7; what++) {
                all.add(x.ringer(i, what));
            }
        }
        return all;
    }

    private List<Integer> row() {
        List<Integer> all = new ArrayList<>();
        for (int i = 0; i < x.count(12); i++) {
            all.add(x.row(i));
        }
        return all;
    }
}
