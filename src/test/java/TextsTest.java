/** Promises 1, and 6 to 8: a new object, the tape, what is read, faults. */
public final class TextsTest {
    private static final String LAW = "g1,2,3;";

    public static void main(String[] args) {
        newObjectHasNoCase();
        tapeIsFull();
        casesAreRead();
        faultsOfOrder();
        faultsOfNumbers();
        faultsOfRoom();
        firstFaultIsTold();
        faultLeavesTheCase();
        Due.end();
    }

    private static void newObjectHasNoCase() {
        ClawCase x = new ClawCase();
        for (int what = 0; what <= 9; what++) {
            Due.is("count(" + what + ") at first", x.count(what), 0);
        }
        Due.is("fault() at first", x.fault(), 0);
        Due.is("play(9): STATE is ahead of BAD", x.play(9), ClawCase.STATE);
        Due.is("restore(1)", x.restore(1), ClawCase.STATE);
    }

    private static void tapeIsFull() {
        ClawCase x = new ClawCase();
        for (int i = 1; i <= 70; i++) {
            Due.is("feed(" + i + ")", x.feed(i), i);
        }
        Due.is("feed(255)", x.feed(255), ClawCase.FULL);
        Due.is("feed(256): BAD is ahead of FULL", x.feed(256), ClawCase.BAD);
        Due.is("feed(-1)", x.feed(-1), ClawCase.BAD);
        Due.is("count(9)", x.count(9), 70);
        x.glass();
        Due.is("count(9) behind glass()", x.count(9), 0);
        Due.is("feed(0)", x.feed(0), 1);
        Due.is("feed(255)", x.feed(255), 2);
    }

    private static void casesAreRead() {
        ClawCase x = new ClawCase();
        Due.is("glass()", Due.tell(x, "g0,9,09;b1,1;s02,1;l3,05;o9,1;e5,5;b1,2;b1,3;"), 7);
        Due.is("LOW", x.count(3), 0);
        Due.is("HIGH", x.count(4), 9);
        Due.is("EVERY", x.count(5), 9);
        Due.row("places", Due.placesOf(x), 1, 1, 5, 1, 5, 2, 3);
        Due.is("weight", x.toy(1, 0), 2);
        Due.is("kind", x.kind(4), 5);
        Due.is("it lies on top of those told ahead", x.toy(3, 4), 2);
        x.play(1);
        Due.is("ACTS", x.count(8), 1);
        Due.is("glass() anew", Due.tell(x, "g3,4,5;e1,2;"), 1);
        Due.is("ACTS", x.count(8), 0);
        Due.is("PLAYS", x.count(2), 0);
        Due.is("undo()", x.undo(), ClawCase.STATE);
        Due.is("TOYS", x.count(1), 1);
        Due.is("toy(1, 0)", x.toy(1, 0), ClawCase.BAD);
        Due.is("fault() yet", x.fault(), 0);
    }

    private static void refused(String text, int place, int number) {
        ClawCase x = new ClawCase();
        Due.is("glass() of " + text, Due.tell(x, text), -1000100 - place);
        Due.is("fault() of " + text, x.fault(), number);
        Due.is("count(1) of " + text, x.count(1), 0);
        Due.is("count(9) of " + text, x.count(9), 0);
    }

    private static void faultsOfOrder() {
        refused("", 0, 1);
        refused("g", 1, 1);
        refused("gg", 1, 1);
        refused("G1,2,3;b1,1;", 0, 1);
        refused("1", 0, 1);
        refused("g,", 1, 1);
        refused("g1;", 2, 1);
        refused("g1,2,3,", 6, 1);
        refused("g1,2,3", 6, 1);
        refused(LAW, 7, 1);
        refused(LAW + "g", 7, 1);
        refused(LAW + "x1,1;", 7, 1);
        refused(LAW + ";", 7, 1);
        refused(LAW + "1", 7, 1);
        refused(LAW + "b", 8, 1);
        refused(LAW + "b1", 9, 1);
        refused(LAW + "b1;", 9, 1);
        refused(LAW + "b1,1", 11, 1);
        refused(LAW + "b1,1,", 11, 1);
        refused(LAW + "b1,1;;", 12, 1);
        refused(LAW + "b1,1; ", 12, 1);
        refused(LAW + "b 1,1;", 8, 1);
        refused(LAW + "b1,1;s", 13, 1);
        refused("g\u00e9", 1, 1);
        refused("g1,2,3;b1,1;\u0000", 12, 1);
        // '`' and '{' lie beside the letters, '/' and ':' beside the figures
        refused("`", 0, 1);
        refused("{", 0, 1);
        refused("g/", 1, 1);
        refused("g:", 1, 1);
    }

    private static void faultsOfNumbers() {
        refused("g10,", 1, 2);
        refused("g99", 1, 2);
        refused("g100,", 1, 1);
        refused("g001,1,1;b1,1;", 1, 1);
        refused("g0000", 1, 1);
        refused("g1,10,", 3, 2);
        refused("g1,1,0;", 5, 2);
        refused("g1,1,00;", 5, 2);
        refused("g1,1,10;", 5, 2);
        refused(LAW + "b0,", 8, 2);
        refused(LAW + "b10,", 8, 2);
        refused(LAW + "b1,0;", 10, 2);
        refused(LAW + "b1,6;", 10, 2);
        refused(LAW + "b1,111;", 10, 1);
        refused("g1,2,3;12", 7, 1);
    }

    private static void faultsOfRoom() {
        String seven = LAW + "b1,1;b1,1;b1,1;b1,1;b1,1;b1,1;b1,1;";
        Due.is("seven", Due.tell(new ClawCase(), seven), 7);
        refused(seven + "b", 42, 3);
        refused(seven + "e1,1;", 42, 3);
        refused(seven + "g", 42, 1);
        refused(seven + "1", 42, 1);
        refused(seven + "?", 42, 1);
    }

    private static void firstFaultIsTold() {
        refused("g10,;;", 1, 2);
        refused("g1,2,3;b0,9;x", 8, 2);
        refused("g1,2,3;b1,9;x", 10, 2);
        refused("g1,2x3;b0,9;x", 4, 1);
        ClawCase x = new ClawCase();
        Due.tell(x, "g1,1,0");
        Due.is("fault()", x.fault(), 2);
        Due.tell(x, "g1,1,1;b1,1;");
        Due.is("fault() behind a good one", x.fault(), 2);
        Due.tell(x, "g1");
        Due.is("fault() behind another", x.fault(), 1);
    }

    private static void faultLeavesTheCase() {
        ClawCase x = Due.read("g9,9,1;b1,1;b2,3;");
        x.play(1);
        Due.is("glass()", Due.tell(x, "g1,1,1;e2,2;s3,3;l4,4;q"), -1000122);
        Due.is("TOYS", x.count(1), 2);
        Due.is("LOW", x.count(3), 9);
        Due.is("ACTS", x.count(8), 1);
        Due.is("PLAYS", x.count(2), 1);
        Due.row("places", Due.placesOf(x), 0, 3);
        Due.is("undo()", x.undo(), 0);
        Due.row("places", Due.placesOf(x), 1, 3);
    }
}
