import java.lang.reflect.Method;
import java.util.ArrayList;
import java.util.Comparator;
import java.util.HashMap;
import java.util.List;
import java.util.Map;
import java.util.Random;

/** All promises: runs of calls by fixed seeds, on the class and on Model; both answer the same. */
public final class ModelTest {
    private static final int RUNS = 400, CALLS = 512;
    private static final int[] ODD = {-2, -1, 41, 256, 1000000, Integer.MAX_VALUE, Integer.MIN_VALUE};

    /** Of each call the least and the most of each of its numbers. */
    private static final Map<String, int[]> TOLD = new HashMap<>();

    static {
        TOLD.put("row", new int[] {0, 7, 0, 2, 0, 40});
        TOLD.put("set", new int[] {0, 7, 0, 12, -70000, 70000});
        TOLD.put("copy", new int[] {0, 7, 0, 8, 0, 7, 0, 8, 0, 8});
        TOLD.put("drop", new int[] {0, 7});
        TOLD.put("feed", new int[] {0, 255});
        TOLD.put("play", new int[] {1, 5});
        TOLD.put("put", new int[] {0, 6, 1, 5});
        TOLD.put("grip", new int[] {0, 1, 0, 9});
        TOLD.put("toy", new int[] {0, 6, 0, 4});
        TOLD.put("column", new int[] {1, 5, 0, 2});
        TOLD.put("gives", new int[] {1, 5});
        TOLD.put("grips", new int[] {0, 60});
        TOLD.put("win", new int[] {0, 6, -1, 4});
        TOLD.put("haul", new int[] {1, 4, -1, 4});
        TOLD.put("enough", new int[] {1, 5});
        TOLD.put("share", new int[] {0, 6, 0, 999});
        TOLD.put("fits", new int[] {0, 6, 0, 7, 0, 12, 1, 12, 0, 3});
        TOLD.put("chance", new int[] {0, 6, 1, 5, 0, 8, 0, 10, 0, 1});
        TOLD.put("drawn", new int[] {0, 60, 1, 999999, 0, 1});
        TOLD.put("image", new int[] {0, 1});
        TOLD.put("restore", new int[] {0, 1});
        TOLD.put("kind", new int[] {0, 6});
        TOLD.put("as", new int[] {0, 6, 0, 5});
        TOLD.put("ask", new int[] {0, 6, 0, 1});
        TOLD.put("trace", new int[] {0, 6});
        TOLD.put("count", new int[] {0, 9});
    }

    private final Random random;
    private final List<Method> calls = new ArrayList<>();
    private final List<Method> twins = new ArrayList<>();
    private ClawCase x;
    private Model y;
    private int made;

    private ModelTest(long seed) throws ReflectiveOperationException {
        random = new Random(seed);
        for (Method m : ClawCase.class.getDeclaredMethods()) {
            if (java.lang.reflect.Modifier.isPublic(m.getModifiers())) {
                calls.add(m);
            }
        }
        // reflection tells methods in no order of its own
        calls.sort(Comparator.comparing(Method::getName));
        for (Method m : calls) {
            twins.add(Model.class.getDeclaredMethod(m.getName(), m.getParameterTypes()));
        }
    }

    public static void main(String[] args) throws ReflectiveOperationException {
        for (int seed = 1; seed <= RUNS; seed++) {
            new ModelTest(seed).run(seed);
        }
        Due.end();
    }

    private void run(int seed) throws ReflectiveOperationException {
        x = new ClawCase();
        y = new Model();
        made = 0;
        if (random.nextInt(4) > 0) {
            tell();
        }
        while (made < CALLS) {
            int turn = random.nextInt(120);
            if (turn == 0 && CALLS - made > 100) {
                tell();
            } else if (turn < 3) {
                tellPlacesAndAsk(seed);
            } else if (turn < 30) {
                both(seed, "play", 1 + random.nextInt(5));
            } else if (turn < 45) {
                both(seed, "put", random.nextInt(7), 1 + random.nextInt(5));
            } else {
                any(seed);
            }
        }
    }

    /** Each number mostly as the document tells it, sometimes the one beside its least or its most, or an odd one. */
    private void any(int seed) throws ReflectiveOperationException {
        Method m = calls.get(random.nextInt(calls.size()));
        int[] told = TOLD.get(m.getName());
        int[] numbers = new int[m.getParameterCount()];
        for (int i = 0; i < numbers.length; i++) {
            int least = told[2 * i];
            int most = told[2 * i + 1];
            int turn = random.nextInt(80);
            numbers[i] = turn == 0 ? ODD[random.nextInt(ODD.length)]
                : turn == 1 ? least - 1 : turn == 2 ? most + 1
                : turn == 3 ? least : turn == 4 ? most : least + random.nextInt(most - least + 1);
        }
        both(seed, m.getName(), numbers);
    }

    /** A row that tells where a toy goes by the round, so that what fits is often something. */
    private void tellPlacesAndAsk(int seed) throws ReflectiveOperationException {
        int n = 1 + random.nextInt(12);
        int toy = random.nextInt(7);
        int row = random.nextInt(8);
        both(seed, "row", row, random.nextInt(3), n + random.nextInt(3));
        both(seed, "image", 1);
        int[] places = new int[n];
        for (int k = 0; k < n; k++) {
            both(seed, "play", k % 5 + 1);
            places[k] = y.toy(toy, 1);
        }
        both(seed, "restore", 1);
        for (int k = 0; k < n; k++) {
            both(seed, "set", row, k, random.nextInt(60) == 0 ? 3 : places[k]);
        }
        for (int what = 0; what < 4; what++) {
            both(seed, "fits", toy, row, 0, n, what);
        }
    }

    private void tell() throws ReflectiveOperationException {
        StringBuilder text = new StringBuilder("g");
        text.append(random.nextInt(10)).append(',').append(random.nextInt(10)).append(',');
        text.append(1 + random.nextInt(4)).append(';');
        int toys = 1 + random.nextInt(random.nextInt(6) == 0 ? 9 : 7);
        int most = 1 + random.nextInt(9);
        int last = 1 + random.nextInt(5);
        for (int i = 0; i < toys; i++) {
            text.append("bsloe".charAt(random.nextInt(5))).append(random.nextInt(20) == 0 ? "0" : "");
            text.append(1 + random.nextInt(most)).append(',').append(1 + random.nextInt(last)).append(';');
        }
        if (random.nextInt(5) == 0) {
            spoil(text);
        }
        for (int i = 0; i < text.length(); i++) {
            both(0, "feed", text.charAt(i));
        }
        both(0, "glass");
        both(0, "fault");
        for (int what = 0; what < 10; what++) {
            both(0, "count", what);
        }
    }

    private void spoil(StringBuilder text) {
        int at = random.nextInt(text.length());
        String signs = "gbsloexz,;0123456789 AZ`{/:\n\r\u00ff\u0000";
        char sign = signs.charAt(random.nextInt(signs.length()));
        switch (random.nextInt(4)) {
            case 0: text.setCharAt(at, sign); break;
            case 1: text.insert(at, sign); break;
            case 2: text.deleteCharAt(at); break;
            default: text.setLength(at); break;
        }
    }

    private void both(int seed, String name, int... numbers) throws ReflectiveOperationException {
        made++;
        for (int i = 0; i < calls.size(); i++) {
            if (calls.get(i).getName().equals(name)) {
                Object[] boxed = new Object[numbers.length];
                StringBuilder call = new StringBuilder("seed " + seed + ", call " + made + ": " + name + "(");
                for (int k = 0; k < numbers.length; k++) {
                    boxed[k] = numbers[k];
                    call.append(k == 0 ? "" : ", ").append(numbers[k]);
                }
                Due.is(call.append(")").toString(), (int) calls.get(i).invoke(x, boxed),
                    (int) twins.get(i).invoke(y, boxed));
            }
        }
    }
}
