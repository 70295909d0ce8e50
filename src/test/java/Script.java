import java.lang.reflect.Method;
import java.util.ArrayList;
import java.util.List;

/**
 * A test of one sentence of the document: rows of calls on a new object, as
 * "name numbers = answer : the row". Behind a name that reads THE TEXT it stands in ' ', as in tower '246';
 * text '246' puts signs behind THE TEXT. Answer and row may be left out; an answer is a number, true, false or throws.
 */
final class Script {
    private static int sentences;

    private final String sentence;
    private final Watched watched = new Watched();

    private Script(String sentence) {
        this.sentence = sentence;
    }

    /** Tries a sentence by calls on a new object. */
    static void says(String sentence, String... calls) {
        sentences++;
        Script script = new Script(sentence);
        boolean tried = false;
        for (String call : calls) {
            tried |= script.run(call);
        }
        Due.is(sentence + ": is tried", tried, true);
    }

    static void close(String tests) {
        System.out.println(tests + ": " + sentences + " sentences");
        Due.close(tests);
    }

    /** Runs a row: whether it tells what is due. */
    private boolean run(String call) {
        List<String> words = words(call);
        int row = words.indexOf(":");
        int end = row < 0 ? words.size() : row;
        int answer = words.subList(0, end).indexOf("=");
        String what = sentence + ": " + call;
        long got = call(what, words.subList(0, answer < 0 ? end : answer));
        if (answer >= 0) {
            Due.is(what, got, due(words.get(answer + 1)));
        }
        if (row >= 0) {
            Due.row(what, watched.x, numbers(words.subList(row + 1, words.size())));
        }
        return answer >= 0 || row >= 0;
    }

    private static long due(String answer) {
        switch (answer) {
            case "true":
                return 0;
            case "false":
                return -1;
            case "throws":
                return Watched.THROWN;
            default:
                return Integer.parseInt(answer);
        }
    }

    private long call(String what, List<String> words) {
        String name = words.get(0);
        if (words.size() > 1 && words.get(1).startsWith("'")) {
            Due.put(watched.x, words.get(1).substring(1));
            return name.equals("text") ? 0 : watched.call(what, method(name, 0));
        }
        Object[] with = new Object[words.size() - 1];
        int[] numbers = numbers(words.subList(1, words.size()));
        for (int i = 0; i < with.length; i++) {
            with[i] = numbers[i];
        }
        return watched.call(what, method(name, with.length), with);
    }

    private static Method method(String name, int parameters) {
        for (Method m : Watched.calls()) {
            if (m.getName().equals(name) && m.getParameterCount() == parameters) {
                return m;
            }
        }
        throw new IllegalArgumentException("no such call: " + name);
    }

    private static int[] numbers(List<String> words) {
        return words.stream().mapToInt(Integer::decode).toArray();
    }

    /** The words of a row; a text in ' ' is one word, with the ' ahead of it alone. */
    private static List<String> words(String call) {
        List<String> words = new ArrayList<>();
        int from = call.indexOf('\'');
        int to = call.lastIndexOf('\'');
        String ahead = from < 0 ? call : call.substring(0, from);
        addWords(words, ahead);
        if (from >= 0) {
            words.add(call.substring(from, to));
            addWords(words, call.substring(to + 1));
        }
        return words;
    }

    private static void addWords(List<String> words, String part) {
        for (String word : part.trim().split(" +")) {
            if (!word.isEmpty()) {
                words.add(word);
            }
        }
    }
}
