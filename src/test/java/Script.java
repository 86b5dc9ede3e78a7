import java.lang.reflect.Method;
import java.util.ArrayList;
import java.util.Arrays;
import java.util.List;
import java.util.Set;

/**
 * Runs of calls written in lines, each with the answer that is due, on a new object:
 * <pre>
 *   # which sentence of the document is looked at
 *   tell ww40;h01; = 2        letters, then street()
 *   letters ww4               letters alone
 *   16 times hours(60)        a call again and again
 *   wall(0, 3) = 5            a call and its answer; MIN and MAX are the ints at either end
 * </pre>
 * The Model must answer as due, too. And for each line that is refused, and for each question, two
 * more objects go the same way up to that line, and one of them is asked it: behind a refusal just
 * that one is counted, behind a question none, and in all else the two are alike.
 */
final class Script {
    private static final long REFUSED = 4000000000000000000L;
    private static final int MOST_CALLS = 512;
    private static final Set<String> DEEDS = Set.of("letter", "street", "takes", "sells", "needs", "bars", "turn",
        "hours", "row", "judge", "clear", "image", "on");
    private static final int[] COUNTED = {11, 12, 13, 14, 15, 16};

    private final Object it;
    private int calls = 0;

    private Script(Object it) {
        this.it = it;
    }

    static void run(String... texts) throws Exception {
        Script mine = new Script(new WallsByTheHour());
        Script model = new Script(new Model());
        List<String> before = new ArrayList<>();
        String sentence = "";
        for (String line : String.join("\n", texts).split("\n")) {
            line = line.strip();
            if (line.startsWith("#")) {
                sentence = line;
            } else if (line.contains(" = ")) {
                String call = line.substring(0, line.indexOf(" = "));
                long want = Long.parseLong(line.substring(line.indexOf(" = ") + 3));
                Due.due(sentence + ": " + call, mine.go(call), want);
                Due.due(sentence + ": by the Model " + call, model.go(call), want);
                lookBehind(sentence, before, call, want);
                before.add(call);
            } else if (!line.isEmpty()) {
                mine.go(line);
                model.go(line);
                before.add(line);
            }
        }
    }

    /** One call behind such lines; without a number that is due, what the Model answers is. */
    static void after(String sentence, String lines, String call, Long due) throws Exception {
        List<String> before = new ArrayList<>();
        for (String line : lines.split("\n")) {
            if (!line.isBlank() && !line.strip().startsWith("#")) {
                before.add(line.strip().replaceAll(" = .*", ""));
            }
        }
        long want = due == null ? behind(before, new Model()).go(call) : due;
        Due.due(sentence + ": " + call, behind(before, new WallsByTheHour()).go(call), want);
        if (due != null) {
            Due.due(sentence + ": by the Model " + call, behind(before, new Model()).go(call), want);
        }
        lookBehind(sentence, before, call, want);
    }

    /** Refusals, faults of a street told at once and questions leave all else as it was. */
    private static void lookBehind(String sentence, List<String> before, String call, long due) throws Exception {
        int refusal = refusalOf(due);
        boolean isFault = due <= -1000 && call.startsWith("tell ");
        boolean isQuestion = call.contains("(") && !DEEDS.contains(call.substring(0, call.indexOf('(')));
        if (refusal == 0 && !isFault && !isQuestion) {
            return;
        }
        Script asked = behind(before, new WallsByTheHour());
        Script other = behind(before, new WallsByTheHour());
        asked.go(call);
        for (int what : COUNTED) {
            long more = what == 10 + refusal ? 1 : 0;
            Due.due(sentence + ": count(" + what + ") behind " + call, asked.ask("count", what), other.ask("count", what) + more);
        }
        String[] had = other.looks();
        String[] got = asked.looks();
        int i = Arrays.mismatch(got, had);
        Due.so(sentence + ": nothing changed behind " + call + (i < 0 ? "" : ", but " + got[i] + " was " + had[i]), i < 0);
    }

    private static int refusalOf(long due) {
        if (due > REFUSED / 2) {
            return (int) (due - REFUSED);
        }
        return due < 0 && due >= -6 ? (int) -due : 0;
    }

    private static Script behind(List<String> lines, Object it) throws Exception {
        Script script = new Script(it);
        for (String line : lines) {
            script.go(line);
        }
        return script;
    }

    private long go(String line) throws Exception {
        if (line.startsWith("letters ")) {
            letters(line.substring(8));
            return 0;
        }
        if (line.startsWith("tell ")) {
            letters(line.substring(5));
            return ask("street");
        }
        if (line.contains(" times ")) {
            long last = 0;
            for (int i = Integer.parseInt(line.substring(0, line.indexOf(' '))); i > 0; i--) {
                last = go(line.substring(line.indexOf(" times ") + 7));
            }
            return last;
        }
        String inside = line.substring(line.indexOf('(') + 1, line.indexOf(')')).strip();
        String[] words = inside.isEmpty() ? new String[0] : inside.split(",");
        int[] arguments = Arrays.stream(words).map(String::strip).mapToInt(Script::number).toArray();
        return ask(line.substring(0, line.indexOf('(')), arguments);
    }

    private void letters(String text) throws Exception {
        for (char c : text.toCharArray()) {
            ask("letter", c);
        }
    }

    private static int number(String word) {
        return switch (word) {
            case "MIN" -> Integer.MIN_VALUE;
            case "MAX" -> Integer.MAX_VALUE;
            default -> Integer.parseInt(word);
        };
    }

    private long ask(String name, int... arguments) throws Exception {
        calls++;
        if (calls > MOST_CALLS) {
            throw new IllegalStateException("a script asks for more than the document promises");
        }
        Class<?>[] types = new Class<?>[arguments.length];
        Arrays.fill(types, int.class);
        Method method = it.getClass().getDeclaredMethod(name, types);
        return ((Number) method.invoke(it, Arrays.stream(arguments).boxed().toArray())).longValue();
    }

    /** All that can be seen of the object, of its letters and of its image; it is changed by it. */
    private String[] looks() throws Exception {
        List<String> seen = new ArrayList<>();
        lookAround(seen);
        look(seen, "whatIs", 0, 0);
        look(seen, "whatIs", 0, 1);
        look(seen, "judge");
        look(seen, "letter", '5');
        look(seen, "letter", '6');
        look(seen, "letter", ';');
        look(seen, "street");
        lookAtNeeds(seen);
        look(seen, "on");
        lookAround(seen);
        lookAtNeeds(seen);
        return seen.toArray(new String[0]);
    }

    private void lookAround(List<String> seen) throws Exception {
        for (int what = 0; what <= 7; what++) {
            look(seen, "count", what);
        }
        long walls = ask("count", 0);
        for (int wall = 0; wall < walls; wall++) {
            for (int what = 0; what <= 4; what++) {
                look(seen, "wall", wall, what);
            }
        }
        for (int house = 0; house < 8; house++) {
            look(seen, "house", house, 5);
            look(seen, "wasSeen", house, 0, 999);
            look(seen, "longest", house);
        }
    }

    private void lookAtNeeds(List<String> seen) throws Exception {
        for (int house = 0; house < 8; house++) {
            for (int part = 0; part < 6; part++) {
                look(seen, "needs", house, part, 0);
            }
        }
    }

    private void look(List<String> seen, String name, int... arguments) throws Exception {
        seen.add(name + Arrays.toString(arguments) + " " + ask(name, arguments));
    }
}
