import java.lang.reflect.Method;
import java.lang.reflect.Modifier;
import java.util.List;
import java.util.Random;
import java.util.Set;
import java.util.TreeSet;

/** Any arguments in any state: nothing is thrown but where the document says, and questions change nothing. */
public final class WildTests {
    private static final int[] EDGES = {Integer.MIN_VALUE, Integer.MIN_VALUE + 1, -129, -100, -2, -1, 0, 1, 2, 3, 4, 5, 6, 7, 8, 9, 10,
        12, 13, 14, 20, 21, 31, 32, 60, 61, 64, 99, 100, 127, 128, 199, 200, 201, 255, 256, 1 << 20, 1 << 30, Integer.MAX_VALUE};
    private static final String[] FACE = {"sign(int)", "end(int)", "tower()", "method()", "rule()", "ringer(int,int)", "bell(int)",
        "set(int,int)", "sheet(int,int,int,int)", "round(int)", "rounds(int)", "beer(int)", "night()", "undo()", "order(int)", "truth()",
        "lead()", "leads(int,int)", "comes()", "course(int,int,int)", "may(int)", "lawful()", "covers(int)", "rivals(int,int,int)",
        "matches(int,int)", "sleeps(int)", "naps(int,int)", "bound(int)", "missed(int)", "heard(int,int)", "reads()", "said(int)",
        "says(int,int)", "fails()", "lasts()", "stout(int)", "weariest(int)", "coughs(int,int,int)", "keep(int)", "again(int)",
        "count(int)", "row(int)"};

    public static void main(String[] args) {
        face();
        for (int bells = 0; bells <= 7; bells = bells == 0 ? 3 : bells + 1) {
            for (int seed = 1; seed <= 12; seed++) {
                run(bells, new Random(100 * bells + seed));
            }
        }
        Due.close("WildTests");
    }

    // ---- the face

    private static void face() {
        Set<String> due = new TreeSet<>(List.of(FACE));
        Set<String> names = new TreeSet<>();
        for (String call : FACE) {
            names.add(call.substring(0, call.indexOf('(')));
        }
        Set<String> there = new TreeSet<>();
        for (Method m : EachMayMissOne.class.getDeclaredMethods()) {
            boolean open = Modifier.isPublic(m.getModifiers());
            Due.is(m + " is public or private", open || Modifier.isPrivate(m.getModifiers()), true);
            Due.is(m + " bears a public name", names.contains(m.getName()), open);
            if (open) {
                there.add(Watched.told(m));
                boolean truth = Set.of("end", "keep", "again").contains(m.getName());
                Due.is(m + " answers", m.getReturnType() == (truth ? boolean.class : int.class), true);
                Due.is(m + " declares", m.getExceptionTypes().length, Watched.THROWING.contains(m.getName()) ? 1 : 0);
            }
        }
        Due.is("the face " + there, there.equals(due), true);
        Due.is("public fields", EachMayMissOne.class.getFields().length, 1);
        Due.is("constructors", EachMayMissOne.class.getConstructors().length, 1);
        Due.is("final", Modifier.isFinal(EachMayMissOne.class.getModifiers()), true);
    }

    // ---- wild calls

    private static void run(int bells, Random random) {
        Watched watched = new Watched();
        Due.put(watched.x, "3141592".substring(0, bells));
        watched.x.tower();
        List<Method> calls = Watched.calls();
        calls.removeIf(m -> m.getName().equals("tower"));
        for (int i = 0; i < 512; i++) {
            if (random.nextInt(6) == 0) {
                Due.put(watched.x, wildText(random));
            }
            call(watched, calls.get(random.nextInt(calls.size())), random);
        }
        Due.is("bells stay", watched.x.count(0), bells);
    }

    private static String wildText(Random random) {
        String signs = "x.1234567-abcdefgr!;wtpism+*/()<>=0";
        StringBuilder s = new StringBuilder();
        int n = random.nextInt(8);
        for (int i = 0; i < n; i++) {
            s.append(signs.charAt(random.nextInt(signs.length())));
        }
        return s.toString();
    }

    private static void call(Watched watched, Method m, Random random) {
        Object[] with = new Object[m.getParameterCount()];
        StringBuilder what = new StringBuilder(m.getName());
        for (int i = 0; i < with.length; i++) {
            with[i] = random.nextInt(5) == 0 ? random.nextInt() : EDGES[random.nextInt(EDGES.length)];
            what.append(' ').append(with[i]);
        }
        watched.call(what.toString(), m, with);
    }
}
