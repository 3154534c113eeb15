/** What the tests share: a call's answer is compared with the one that is due, and all that differ are told. */
final class Due {
    static final int NULL_ROW = -1000011, PLACE = -1000012, KIND = -1000013, SIZE = -1000014, STORE = -1000015;

    private static int wrong = 0;

    private Due() {
    }

    static void is(String call, long got, long want) {
        if (got != want) {
            wrong++;
            System.out.println(call + " answered " + got + ", due is " + want);
        }
    }

    static void row(String calls, int[] got, int... want) {
        is(calls + ", how many", got.length, want.length);
        for (int i = 0; i < Math.min(got.length, want.length); i++) {
            is(calls + ", number " + i, got[i], want[i]);
        }
    }

    static ClawCase read(String text) {
        ClawCase x = new ClawCase();
        if (tell(x, text) < 0) {
            is("glass() of " + text, x.fault(), 0);
        }
        return x;
    }

    static int tell(ClawCase x, String text) {
        for (int i = 0; i < text.length(); i++) {
            x.feed(text.charAt(i));
        }
        return x.glass();
    }

    static int[] traceOf(ClawCase x) {
        int n = 0;
        while (n < 20 && x.trace(n) != ClawCase.NONE) {
            n++;
        }
        int[] bodies = new int[n];
        for (int i = 0; i < n; i++) {
            bodies[i] = x.trace(i);
        }
        return bodies;
    }

    static int[] placesOf(ClawCase x) {
        int[] places = new int[x.count(1)];
        for (int i = 0; i < places.length; i++) {
            places[i] = x.toy(i, 1);
        }
        return places;
    }

    static void end() {
        System.out.println(wrong == 0 ? "all answers are as due" : wrong + " answers are not as due");
        if (wrong != 0) {
            System.exit(1);
        }
    }
}
