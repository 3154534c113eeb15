/** Promises 2 to 5, and 31 as far as rows go. */
public final class RowsTest {
    public static void main(String[] args) {
        rowsAreMade();
        itemsAreCut();
        itemsAreCopied();
        rowsAreDropped();
        statusIsOfTheLatestCallWithARow();
        Due.end();
    }

    private static void rowsAreMade() {
        ClawCase x = new ClawCase();
        Due.is("row(7, 2, 40)", x.row(7, 2, 40), 40);
        Due.is("row(0, 0, 0)", x.row(0, 0, 0), 0);
        Due.is("count(0)", x.count(0), 2);
        Due.is("row(8, 0, 1)", x.row(8, 0, 1), ClawCase.BAD);
        Due.is("row(-1, 0, 1)", x.row(-1, 0, 1), ClawCase.BAD);
        Due.is("row(0, 3, 1)", x.row(0, 3, 1), ClawCase.BAD);
        Due.is("row(0, -1, 1)", x.row(0, -1, 1), ClawCase.BAD);
        Due.is("row(0, 0, 41)", x.row(0, 0, 41), ClawCase.BAD);
        Due.is("row(0, 0, -1)", x.row(0, 0, -1), Due.SIZE);
        Due.is("row(8, 0, -1)", x.row(8, 0, -1), ClawCase.BAD);
        Due.is("row(0, 0, least)", x.row(0, 0, Integer.MIN_VALUE), Due.SIZE);
        rowsAreMadeAnew();
    }

    /** Items are seen by fits(): the bear of column 1 stays there, so an item fits if it is 1. */
    private static void rowsAreMadeAnew() {
        ClawCase x = Due.read("g0,0,1;b9,1;");
        x.row(1, 2, 3);
        x.set(1, 2, 1);
        Due.is("row(1, 2, -1)", x.row(1, 2, -1), Due.SIZE);
        Due.is("row(1, 2, 41)", x.row(1, 2, 41), ClawCase.BAD);
        Due.is("the row has its item yet", x.fits(0, 1, 2, 1, 0), 62);
        Due.is("row(1, 0, 3)", x.row(1, 0, 3), 3);
        Due.is("its item is 1 no more", x.fits(0, 1, 2, 1, 0), 0);
        Due.is("its lane is another", x.set(1, 0, 128), -128);
        x.grip(1, 9);
        Due.is("its item is 0", x.fits(0, 1, 2, 1, 1), 1022);
    }

    private static void itemsAreCut() {
        ClawCase x = new ClawCase();
        x.row(0, 0, 2);
        x.row(1, 1, 2);
        x.row(2, 2, 2);
        Due.is("set(0, 1, 127)", x.set(0, 1, 127), 127);
        Due.is("set(0, 1, 128)", x.set(0, 1, 128), -128);
        Due.is("set(0, 1, -129)", x.set(0, 1, -129), 127);
        Due.is("set(0, 1, 256)", x.set(0, 1, 256), 0);
        Due.is("set(1, 0, 32768)", x.set(1, 0, 32768), -32768);
        Due.is("set(1, 0, 65535)", x.set(1, 0, 65535), -1);
        Due.is("set(1, 0, 300)", x.set(1, 0, 300), 300);
        Due.is("set(2, 0, most)", x.set(2, 0, Integer.MAX_VALUE), Integer.MAX_VALUE);
        Due.is("set(2, 0, least)", x.set(2, 0, Integer.MIN_VALUE), Integer.MIN_VALUE);
        Due.is("set(2, 2, 0)", x.set(2, 2, 0), Due.PLACE);
        Due.is("set(2, -1, 0)", x.set(2, -1, 0), Due.PLACE);
        Due.is("set(2, most, 0)", x.set(2, Integer.MAX_VALUE, 0), Due.PLACE);
        Due.is("set(3, 0, 0)", x.set(3, 0, 0), Due.NULL_ROW);
        Due.is("set(8, 0, 0)", x.set(8, 0, 0), ClawCase.BAD);
        Due.is("set(-1, 0, 0)", x.set(-1, 0, 0), ClawCase.BAD);
    }

    private static void itemsAreCopied() {
        ClawCase x = new ClawCase();
        x.row(0, 0, 4);
        x.row(1, 0, 2);
        x.row(2, 1, 4);
        Due.is("copy(0, 0, 1, 0, 2)", x.copy(0, 0, 1, 0, 2), 2);
        Due.is("copy(0, 4, 1, 2, 0)", x.copy(0, 4, 1, 2, 0), 0);
        Due.is("copy(0, 5, 1, 0, 0)", x.copy(0, 5, 1, 0, 0), Due.PLACE);
        Due.is("copy(0, 0, 1, 3, 0)", x.copy(0, 0, 1, 3, 0), Due.PLACE);
        Due.is("copy(0, -1, 1, 0, 1)", x.copy(0, -1, 1, 0, 1), Due.PLACE);
        Due.is("copy(0, 0, 1, -1, 1)", x.copy(0, 0, 1, -1, 1), Due.PLACE);
        Due.is("copy(0, 0, 1, 0, -1)", x.copy(0, 0, 1, 0, -1), Due.PLACE);
        Due.is("copy(0, 0, 1, 0, 3)", x.copy(0, 0, 1, 0, 3), Due.PLACE);
        Due.is("copy(1, 0, 0, 0, 3)", x.copy(1, 0, 0, 0, 3), Due.PLACE);
        Due.is("copy(0, most, 1, 0, most)", x.copy(0, Integer.MAX_VALUE, 1, 0, Integer.MAX_VALUE), Due.PLACE);
        Due.is("copy(0, 1, 1, 0, most)", x.copy(0, 1, 1, 0, Integer.MAX_VALUE), Due.PLACE);
        Due.is("copy(0, 9, 2, 0, 1): STORE is ahead of PLACE", x.copy(0, 9, 2, 0, 1), Due.STORE);
        Due.is("copy(2, 0, 7, 9, 1): NULL is ahead", x.copy(2, 0, 7, 9, 1), Due.NULL_ROW);
        Due.is("copy(7, 9, 2, 0, 1): NULL is ahead", x.copy(7, 9, 2, 0, 1), Due.NULL_ROW);
        Due.is("copy(8, 0, 0, 0, 0)", x.copy(8, 0, 0, 0, 0), ClawCase.BAD);
        Due.is("copy(7, 0, -1, 0, 0)", x.copy(7, 0, -1, 0, 0), ClawCase.BAD);
        copiesOverlap();
    }

    /** As above: a row of 1 1 .. alone fits. */
    private static void copiesOverlap() {
        ClawCase x = Due.read("g0,0,1;b1,1;b1,2;");
        x.row(0, 2, 4);
        x.set(0, 0, 1);
        x.set(0, 1, 7);
        x.set(0, 2, 7);
        x.set(0, 3, 7);
        // as they were ahead: 1 7 7 7 becomes 1 1 7 7, not 1 1 1 1
        Due.is("copy(0, 0, 0, 1, 3)", x.copy(0, 0, 0, 1, 3), 3);
        Due.is("the first two", x.fits(0, 0, 0, 2, 0), 62);
        Due.is("the third", x.fits(0, 0, 2, 1, 0), 0);
        x.set(0, 0, 7);
        x.set(0, 1, 1);
        x.set(0, 2, 1);
        x.set(0, 3, 7);
        // 7 1 1 7 becomes 1 1 7 7
        Due.is("copy(0, 1, 0, 0, 3)", x.copy(0, 1, 0, 0, 3), 3);
        Due.is("the first two", x.fits(0, 0, 0, 2, 0), 62);
        Due.is("the third", x.fits(0, 0, 2, 1, 0), 0);
    }

    private static void rowsAreDropped() {
        ClawCase x = new ClawCase();
        x.row(3, 1, 12);
        Due.is("drop(3)", x.drop(3), 12);
        Due.is("count(0)", x.count(0), 0);
        Due.is("drop(3)", x.drop(3), Due.NULL_ROW);
        Due.is("set(3, 0, 0)", x.set(3, 0, 0), Due.NULL_ROW);
        Due.is("drop(8)", x.drop(8), ClawCase.BAD);
        Due.is("drop(-1)", x.drop(-1), ClawCase.BAD);
        x.row(3, 1, 0);
        Due.is("drop(3) of none", x.drop(3), 0);
    }

    private static void statusIsOfTheLatestCallWithARow() {
        ClawCase x = new ClawCase();
        Due.is("status() at first", x.status(), 0);
        x.set(0, 0, 0);
        Due.is("status() behind NULL", x.status(), 1);
        x.set(9, 0, 0);
        Due.is("status() behind BAD", x.status(), 1);
        x.play(1);
        x.feed(300);
        x.glass();
        Due.is("status() behind calls without a row", x.status(), 1);
        x.row(0, 0, -1);
        Due.is("status() behind SIZE", x.status(), 4);
        x.row(0, 0, 3);
        Due.is("status() behind a good one", x.status(), 0);
        x.set(0, 3, 1);
        Due.is("status() behind PLACE", x.status(), 2);
        x.row(1, 1, 3);
        x.copy(0, 0, 1, 0, 1);
        Due.is("status() behind STORE", x.status(), 5);
        x.set(0, 0, 1);
        Due.is("status() behind a good set", x.status(), 0);
        x.drop(5);
        Due.is("status() behind drop", x.status(), 1);
        x.drop(1);
        Due.is("status() behind a good drop", x.status(), 0);
        x.drop(1);
        x.copy(0, 0, 0, 0, 1);
        Due.is("status() behind a good copy", x.status(), 0);
    }
}
