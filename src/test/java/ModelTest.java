import java.lang.reflect.Method;
import java.util.ArrayList;
import java.util.Comparator;
import java.util.List;
import java.util.Random;

/** All promises: runs of calls by fixed seeds, on the class and on Model; both answer the same. */
public final class ModelTest {
    private static final int RUNS = 400, CALLS = 512;
    private static final int[] ODD = {-2, -1, 41, 256, 1000000, Integer.MAX_VALUE, Integer.MIN_VALUE};

    private final Random random;
    private final List<Method> calls = new ArrayList<>();
    private final List<Method> twins = new ArrayList<>();
    private ClawCase x;
    private Model y;
    private int made;

    private ModelTest(long seed) throws ReflectiveOperationException {
        random = new Random(seed);
        for (Method m : ClawCase.class.getDeclaredMethods()) {
            if (java.lang.reflect.Modifier.isPublic(m.getModifiers())) {
                calls.add(m);
            }
        }
        // reflection tells methods in no order of its own
        calls.sort(Comparator.comparing(Method::getName));
        for (Method m : calls) {
            twins.add(Model.class.getDeclaredMethod(m.getName(), m.getParameterTypes()));
        }
    }

    public static void main(String[] args) throws ReflectiveOperationException {
        for (int seed = 1; seed <= RUNS; seed++) {
            new ModelTest(seed).run(seed);
        }
        Due.end();
    }

    private void run(int seed) throws ReflectiveOperationException {
        x = new ClawCase();
        y = new Model();
        made = 0;
        if (random.nextInt(4) > 0) {
            tell();
        }
        while (made < CALLS) {
            int turn = random.nextInt(40);
            if (turn == 0 && CALLS - made > 100) {
                tell();
            } else if (turn < 3) {
                tellPlacesAndAsk(seed);
            } else if (turn < 18) {
                both(seed, "play", 1 + random.nextInt(5));
            } else {
                any(seed);
            }
        }
    }

    private void any(int seed) throws ReflectiveOperationException {
        Method m = calls.get(random.nextInt(calls.size()));
        int[] numbers = new int[m.getParameterCount()];
        for (int i = 0; i < numbers.length; i++) {
            int turn = random.nextInt(30);
            numbers[i] = turn == 0 ? ODD[random.nextInt(ODD.length)]
                : turn < 5 ? random.nextInt(14) - 1 : random.nextInt(turn < 12 ? 6 : 4);
        }
        if (m.getName().equals("row") && numbers[2] >= 0) {
            numbers[2] *= 4;
        }
        if (m.getName().equals("drawn") && random.nextBoolean()) {
            numbers[0] = random.nextInt(62);
            numbers[1] = random.nextInt(1000001);
        }
        if (m.getName().equals("share") && random.nextBoolean()) {
            numbers[1] = random.nextInt(1001);
        }
        both(seed, m.getName(), numbers);
    }

    /** A row that tells where a toy goes by the round, so that what fits is often something. */
    private void tellPlacesAndAsk(int seed) throws ReflectiveOperationException {
        int n = 1 + random.nextInt(12);
        int toy = random.nextInt(7);
        int row = random.nextInt(8);
        both(seed, "row", row, random.nextInt(3), n + random.nextInt(3));
        both(seed, "image", 1);
        int[] places = new int[n];
        for (int k = 0; k < n; k++) {
            both(seed, "play", k % 5 + 1);
            places[k] = y.toy(toy, 1);
        }
        both(seed, "restore", 1);
        for (int k = 0; k < n; k++) {
            both(seed, "set", row, k, random.nextInt(60) == 0 ? 3 : places[k]);
        }
        for (int what = 0; what < 4; what++) {
            both(seed, "fits", toy, row, 0, n, what);
        }
    }

    private void tell() throws ReflectiveOperationException {
        StringBuilder text = new StringBuilder("g");
        text.append(random.nextInt(10)).append(',').append(random.nextInt(10)).append(',');
        text.append(1 + random.nextInt(4)).append(';');
        int toys = 1 + random.nextInt(random.nextInt(6) == 0 ? 9 : 7);
        int most = 1 + random.nextInt(9);
        int last = 1 + random.nextInt(5);
        for (int i = 0; i < toys; i++) {
            text.append("bsloe".charAt(random.nextInt(5))).append(random.nextInt(20) == 0 ? "0" : "");
            text.append(1 + random.nextInt(most)).append(',').append(1 + random.nextInt(last)).append(';');
        }
        if (random.nextInt(5) == 0) {
            spoil(text);
        }
        for (int i = 0; i < text.length(); i++) {
            both(0, "feed", text.charAt(i));
        }
        both(0, "glass");
        both(0, "fault");
        for (int what = 0; what < 10; what++) {
            both(0, "count", what);
        }
    }

    private void spoil(StringBuilder text) {
        int at = random.nextInt(text.length());
        String signs = "gbsloexz,;0123456789 AZ`{/:\n\r\u00ff\u0000";
        char sign = signs.charAt(random.nextInt(signs.length()));
        switch (random.nextInt(4)) {
            case 0: text.setCharAt(at, sign); break;
            case 1: text.insert(at, sign); break;
            case 2: text.deleteCharAt(at); break;
            default: text.setLength(at); break;
        }
    }

    private void both(int seed, String name, int... numbers) throws ReflectiveOperationException {
        made++;
        for (int i = 0; i < calls.size(); i++) {
            if (calls.get(i).getName().equals(name)) {
                Object[] boxed = new Object[numbers.length];
                StringBuilder call = new StringBuilder("seed " + seed + ", call " + made + ": " + name + "(");
                for (int k = 0; k < numbers.length; k++) {
                    boxed[k] = numbers[k];
                    call.append(k == 0 ? "" : ", ").append(numbers[k]);
                }
                Due.is(call.append(")").toString(), (int) calls.get(i).invoke(x, boxed),
                    (int) twins.get(i).invoke(y, boxed));
            }
        }
    }
}
