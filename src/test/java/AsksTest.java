/** Promises 26 to 29, and 31 as far as as() goes: kinds, asks, the trace. */
public final class AsksTest {
    public static void main(String[] args) {
        kinds();
        asksOfEachKind();
        whereItIsCounts();
        traceStays();
        Due.end();
    }

    private static ClawCase oneOfEach() {
        // 0 and 1 are filled so that numbers are not 0
        return Due.read("g9,9,1;b1,1;b7,2;s6,3;l5,4;o4,5;e3,5;");
    }

    private static void kinds() {
        ClawCase x = oneOfEach();
        int[] kindOf = {1, 1, 2, 3, 4, 5};
        String[] wider = {"01", "01", "012", "013", "04", "045"};
        for (int toy = 0; toy < 6; toy++) {
            Due.is("kind(" + toy + ")", x.kind(toy), kindOf[toy]);
            for (int kind = 0; kind <= 5; kind++) {
                boolean is = wider[toy].indexOf('0' + kind) >= 0;
                Due.is("as(" + toy + ", " + kind + ")", x.as(toy, kind), is ? toy : Due.KIND);
                Due.is("status()", x.status(), is ? 0 : 3);
            }
        }
        x.as(0, 5);
        Due.is("as(0, 6)", x.as(0, 6), ClawCase.BAD);
        Due.is("as(0, -1)", x.as(0, -1), ClawCase.BAD);
        Due.is("as(6, 0)", x.as(6, 0), ClawCase.BAD);
        Due.is("as(-1, 0)", x.as(-1, 0), ClawCase.BAD);
        Due.is("status() behind BAD", x.status(), 3);
        Due.is("kind(6)", x.kind(6), ClawCase.BAD);
        Due.is("kind(-1)", x.kind(-1), ClawCase.BAD);
    }

    private static void asked(ClawCase x, int toy, int what, int want, int... bodies) {
        String call = "ask(" + toy + ", " + what + ")";
        Due.is(call, x.ask(toy, what), want);
        Due.row("trace of " + call, Due.traceOf(x), bodies);
    }

    private static void asksOfEachKind() {
        ClawCase x = oneOfEach();
        asked(x, 1, 0, 7 + (1 + 2), 11, 10, 21, 20);
        asked(x, 1, 1, 1 + 2, 21, 20);
        asked(x, 2, 0, -(6 + 2 * (2 + 3)), 12, 11, 10, 24, 21, 20);
        asked(x, 2, 1, 2 * (2 + 3), 24, 21, 20);
        asked(x, 3, 0, 5 + (3 + 4 - 1000), 11, 10, 22, 21, 20);
        asked(x, 3, 1, 3 + 4 - 1000, 22, 21, 20);
        asked(x, 4, 0, 4 - 100, 13, 10);
        asked(x, 4, 1, 4 - (4 - 100), 23, 20, 13, 10);
        asked(x, 5, 0, 2 * (3 - 100), 14, 13, 10);
        asked(x, 5, 1, 5 - 2 * (3 - 100), 23, 20, 14, 13, 10);
    }

    private static void whereItIsCounts() {
        ClawCase x = oneOfEach();
        x.play(2);
        asked(x, 1, 1, 1, 21, 20);
        ClawCase egg = Due.read("g2,2,1;b1,1;e2,4;");
        egg.play(4);
        asked(egg, 1, 1, 1 - 2 * (2 - 100), 23, 20, 14, 13, 10);
    }

    private static void traceStays() {
        ClawCase x = oneOfEach();
        Due.is("trace(0) at first", x.trace(0), ClawCase.NONE);
        x.ask(4, 1);
        Due.is("ask(6, 0)", x.ask(6, 0), ClawCase.BAD);
        Due.is("ask(-1, 0)", x.ask(-1, 0), ClawCase.BAD);
        Due.is("ask(0, 2)", x.ask(0, 2), ClawCase.BAD);
        Due.is("ask(0, -1)", x.ask(0, -1), ClawCase.BAD);
        Due.row("trace behind BAD", Due.traceOf(x), 23, 20, 13, 10);
        x.as(0, 0);
        x.play(5);
        Due.row("trace behind others", Due.traceOf(x), 23, 20, 13, 10);
        x.ask(0, 1);
        Due.row("trace anew", Due.traceOf(x), 21, 20);
        Due.is("trace(-1)", x.trace(-1), ClawCase.NONE);
        Due.is("trace(2)", x.trace(2), ClawCase.NONE);
        Due.is("trace(16)", x.trace(16), ClawCase.NONE);
        Due.is("trace(most)", x.trace(Integer.MAX_VALUE), ClawCase.NONE);
        Due.is("trace(least)", x.trace(Integer.MIN_VALUE), ClawCase.NONE);
    }
}
