import java.lang.reflect.InvocationTargetException;
import java.lang.reflect.Method;
import java.lang.reflect.Modifier;
import java.util.ArrayList;
import java.util.List;
import java.util.NoSuchElementException;
import java.util.Random;
import java.util.Set;
import java.util.TreeSet;

/** Any arguments in any state: nothing is thrown but where the document says, and questions change nothing. */
public final class WildTests {
    private static final Set<String> THROWING = Set.of("ringer", "bell", "row");
    private static final Set<String> ASKING = Set.of("ringer", "bell", "order", "truth", "lead", "leads", "course", "may", "lawful",
        "covers", "rivals", "matches", "sleeps", "naps", "bound", "missed", "heard", "said", "says", "fails", "lasts", "stout",
        "weariest", "coughs", "count", "row", "comes", "reads");
    private static final Set<String> READING = Set.of("tower", "method", "rule", "night", "comes", "reads");
    private static final int[] EDGES = {Integer.MIN_VALUE, Integer.MIN_VALUE + 1, -129, -100, -2, -1, 0, 1, 2, 3, 4, 5, 6, 7, 8, 9, 10,
        12, 13, 14, 20, 21, 31, 32, 60, 61, 64, 99, 100, 127, 128, 199, 200, 201, 255, 256, 1 << 20, 1 << 30, Integer.MAX_VALUE};
    private static final String[] FACE = {"sign(int)", "end(int)", "tower()", "method()", "rule()", "ringer(int,int)", "bell(int)",
        "set(int,int)", "sheet(int,int,int,int)", "round(int)", "rounds(int)", "beer(int)", "night()", "undo()", "order(int)", "truth()",
        "lead()", "leads(int,int)", "comes()", "course(int,int,int)", "may(int)", "lawful()", "covers(int)", "rivals(int,int,int)",
        "matches(int,int)", "sleeps(int)", "naps(int,int)", "bound(int)", "missed(int)", "heard(int,int)", "reads()", "said(int)",
        "says(int,int)", "fails()", "lasts()", "stout(int)", "weariest(int)", "coughs(int,int,int)", "keep(int)", "again(int)",
        "count(int)", "row(int)"};

    public static void main(String[] args) throws IllegalAccessException {
        face();
        for (int bells = 0; bells <= 7; bells = bells == 0 ? 3 : bells + 1) {
            for (int seed = 1; seed <= 12; seed++) {
                run(bells, new Random(100 * bells + seed));
            }
        }
        Due.close("WildTests");
    }

    // ---- the face

    private static String told(Method m) {
        StringBuilder s = new StringBuilder(m.getName()).append('(');
        for (Class<?> type : m.getParameterTypes()) {
            s.append(s.charAt(s.length() - 1) == '(' ? "" : ",").append(type.getName());
        }
        return s.append(')').toString();
    }

    private static void face() {
        Set<String> due = new TreeSet<>(List.of(FACE));
        Set<String> names = new TreeSet<>();
        for (String call : FACE) {
            names.add(call.substring(0, call.indexOf('(')));
        }
        Set<String> there = new TreeSet<>();
        for (Method m : EachMayMissOne.class.getDeclaredMethods()) {
            boolean open = Modifier.isPublic(m.getModifiers());
            Due.is(m + " is public or private", open || Modifier.isPrivate(m.getModifiers()), true);
            Due.is(m + " bears a public name", names.contains(m.getName()), open);
            if (open) {
                there.add(told(m));
                boolean truth = Set.of("end", "keep", "again").contains(m.getName());
                Due.is(m + " answers", m.getReturnType() == (truth ? boolean.class : int.class), true);
                Due.is(m + " declares", m.getExceptionTypes().length, THROWING.contains(m.getName()) ? 1 : 0);
            }
        }
        Due.is("the face " + there, there.equals(due), true);
        Due.is("public fields", EachMayMissOne.class.getFields().length, 1);
        Due.is("constructors", EachMayMissOne.class.getConstructors().length, 1);
        Due.is("final", Modifier.isFinal(EachMayMissOne.class.getModifiers()), true);
    }

    // ---- wild calls

    private static void run(int bells, Random random) throws IllegalAccessException {
        EachMayMissOne x = new EachMayMissOne();
        Due.put(x, "3141592".substring(0, bells));
        x.tower();
        List<Method> calls = new ArrayList<>();
        for (Method m : EachMayMissOne.class.getDeclaredMethods()) {
            if (Modifier.isPublic(m.getModifiers()) && !m.getName().equals("tower")) {
                calls.add(m);
            }
        }
        calls.sort((a, b) -> told(a).compareTo(told(b)));
        for (int i = 0; i < 512; i++) {
            if (random.nextInt(6) == 0) {
                Due.put(x, wildText(random));
            }
            call(x, calls.get(random.nextInt(calls.size())), random);
        }
        Due.is("bells stay", x.count(0), bells);
    }

    private static String wildText(Random random) {
        String signs = "x.1234567-abcdefgr!;wtpism+*/()<>=0";
        StringBuilder s = new StringBuilder();
        int n = random.nextInt(8);
        for (int i = 0; i < n; i++) {
            s.append(signs.charAt(random.nextInt(signs.length())));
        }
        return s.toString();
    }

    private static void call(EachMayMissOne x, Method m, Random random) throws IllegalAccessException {
        Object[] with = new Object[m.getParameterCount()];
        StringBuilder what = new StringBuilder(m.getName());
        for (int i = 0; i < with.length; i++) {
            with[i] = random.nextInt(5) == 0 ? random.nextInt() : EDGES[random.nextInt(EDGES.length)];
            what.append(' ').append(with[i]);
        }
        List<Integer> state = state(x);
        List<Integer> row = row(x);
        String thrown = "";
        long answer = 0;
        try {
            Object got = m.invoke(x, with);
            answer = got instanceof Boolean ? ((Boolean) got ? 0 : -1) : (Integer) got;
        } catch (InvocationTargetException e) {
            thrown = e.getCause().getClass().getName();
        }
        boolean mayThrow = THROWING.contains(m.getName()) && thrown.equals(NoSuchElementException.class.getName());
        Due.is(what + " throws " + thrown, thrown.isEmpty() || mayThrow, true);
        boolean counts = m.getName().equals("count") || m.getName().equals("row") || m.getName().equals("sheet");
        if (ASKING.contains(m.getName()) || answer < 0 && !counts) {
            Due.is(what + " changes nothing", state(x).equals(state), true);
        }
        if (answer < 0 && !counts) {
            Due.is(what + " leaves the row", row(x).equals(row), true);
        }
        if (READING.contains(m.getName())) {
            Due.is(what + " empties the text", x.count(13), 0);
        }
    }

    /** All that shows but the text and the row. */
    private static List<Integer> state(EachMayMissOne x) {
        List<Integer> all = new ArrayList<>();
        for (int i = 0; i < 12; i++) {
            all.add(x.count(i));
        }
        for (int k = 1; k <= 21; k++) {
            all.add(x.missed(k));
        }
        for (int i = 0; i < x.count(0); i++) {
            all.add(x.bell(i));
            for (int what = 0; what < 7; what++) {
                all.add(x.ringer(i, what));
            }
        }
        return all;
    }

    private static List<Integer> row(EachMayMissOne x) {
        List<Integer> all = new ArrayList<>();
        for (int i = 0; i < x.count(12); i++) {
            all.add(x.row(i));
        }
        return all;
    }
}
