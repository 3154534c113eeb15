import java.lang.reflect.Method;
import java.lang.reflect.Modifier;
import java.util.ArrayList;
import java.util.HashMap;
import java.util.List;
import java.util.Map;

/**
 * A run of calls on a new object, told line by line: "play 1 = 0", or "undo = STATE * 3" for three such calls.
 * Two words stand for many calls: "text g1,2,3;b1,1; = 1" feeds these bytes and calls glass(), "tell g1 = 2"
 * feeds them alone. In both \x20 is the byte of that number.
 */
final class Script {
    private static final Map<String, Method> CALLS = new HashMap<>();
    private static final Map<String, Integer> NAMES = new HashMap<>();

    static {
        for (Method m : ClawCase.class.getDeclaredMethods()) {
            if (Modifier.isPublic(m.getModifiers())) {
                CALLS.put(m.getName(), m);
            }
        }
        NAMES.put("NONE", -1000000);
        NAMES.put("BAD", -1000001);
        NAMES.put("STATE", -1000002);
        NAMES.put("FULL", -1000003);
        NAMES.put("NULL", -1000011);
        NAMES.put("PLACE", -1000012);
        NAMES.put("KIND", -1000013);
        NAMES.put("SIZE", -1000014);
        NAMES.put("STORE", -1000015);
        NAMES.put("MOST", Integer.MAX_VALUE);
        NAMES.put("LEAST", Integer.MIN_VALUE);
    }

    private static final class Step {
        String call = "";
        String name = "";
        String bytes = "";
        Object[] numbers = {};
        int want = 0;
        int times = 1;

        boolean isRefused() {
            return want <= ClawCase.BAD;
        }

        boolean isFault() {
            return want <= -1000100;
        }

        boolean isFinding() {
            return want < -1000010 && !isFault();
        }
    }

    private final List<Step> steps = new ArrayList<>();

    static Script of(String... lines) {
        Script s = new Script();
        for (String line : lines) {
            s.add(line);
        }
        return s;
    }

    void add(String line) {
        Step step = new Step();
        String[] sides = (line + " ").split(" = ");
        step.call = sides[0].trim();
        if (sides.length > 1) {
            String[] answer = sides[1].split("\\*");
            step.want = number(answer[0].trim());
            step.times = answer.length > 1 ? Integer.parseInt(answer[1].trim()) : 1;
        }
        String[] words = step.call.split(" ");
        step.name = words[0];
        if (step.name.equals("text") || step.name.equals("tell")) {
            step.bytes = words.length > 1 ? bytes(words[1]) : "";
        } else {
            step.numbers = new Object[words.length - 1];
            for (int i = 1; i < words.length; i++) {
                step.numbers[i - 1] = number(words[i]);
            }
        }
        steps.add(step);
    }

    boolean isEmpty() {
        return steps.isEmpty();
    }

    /** Makes all calls on a new object and compares their answers. */
    void run(String title) {
        ClawCase x = new ClawCase();
        for (Step step : steps) {
            for (int i = 0; i < step.times; i++) {
                Due.is(title + ": " + step.call, answer(x, step), step.want);
            }
        }
    }

    /** The answers of the probe's calls on a new object, that has gone through this run. */
    int[] answersBehind(Script probe) {
        ClawCase x = new ClawCase();
        for (Step step : steps) {
            for (int i = 0; i < step.times; i++) {
                answer(x, step);
            }
        }
        int[] answers = new int[probe.steps.size()];
        for (int i = 0; i < answers.length; i++) {
            answers[i] = answer(x, probe.steps.get(i));
        }
        return answers;
    }

    String call(int i) {
        return steps.get(i).call;
    }

    boolean hasRefused() {
        return steps.stream().anyMatch(Step::isRefused);
    }

    boolean hasFinding() {
        return steps.stream().anyMatch(Step::isFinding);
    }

    boolean hasFault() {
        return steps.stream().anyMatch(Step::isFault);
    }

    /** The same run without what was refused or found; but a FAULT stays that emptied the tape of earlier bytes. */
    Script withoutRefused() {
        Script s = new Script();
        boolean hasBytes = false;
        for (Step step : steps) {
            if (!step.isRefused() || step.isFault() && hasBytes) {
                s.steps.add(step);
                hasBytes = step.name.equals("feed") || step.name.equals("tell")
                    || hasBytes && !step.name.equals("glass") && !step.name.equals("text");
            }
        }
        return s;
    }

    private static int answer(ClawCase x, Step step) {
        if (step.name.equals("text")) {
            return Due.tell(x, step.bytes);
        }
        if (step.name.equals("tell")) {
            int bytes = 0;
            for (int i = 0; i < step.bytes.length(); i++) {
                bytes = x.feed(step.bytes.charAt(i));
            }
            return bytes;
        }
        try {
            return (int) CALLS.get(step.name).invoke(x, step.numbers);
        } catch (ReflectiveOperationException e) {
            throw new IllegalStateException(step.call, e);
        }
    }

    private static int number(String word) {
        if (word.startsWith("@")) {
            return -1000100 - Integer.parseInt(word.substring(1));
        }
        return NAMES.containsKey(word) ? NAMES.get(word) : Integer.parseInt(word);
    }

    private static String bytes(String word) {
        StringBuilder b = new StringBuilder();
        for (int i = 0; i < word.length(); i++) {
            if (word.startsWith("\\x", i)) {
                b.append((char) Integer.parseInt(word.substring(i + 2, i + 4), 16));
                i += 3;
            } else {
                b.append(word.charAt(i));
            }
        }
        return b.toString();
    }
}
