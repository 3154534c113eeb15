/** Promises 17, 18, 20 to 23: what is foretold by search, shares, fits, chances, draws. */
public final class ForetoldTest {
    public static void main(String[] args) {
        fewestPlays();
        mostWon();
        shares();
        fitting();
        fittingRefused();
        chances();
        draws();
        nothingChanges();
        Due.end();
    }

    private static void fewestPlays() {
        ClawCase x = Due.read("g0,9,2;b1,3;b1,3;");
        Due.is("win(1, -1): strong at the second", x.win(1, -1), 2);
        Due.is("win(1, 0): the first row", x.win(1, 0), 1);
        Due.is("win(1, 1)", x.win(1, 1), 3);
        Due.is("win(1, 2): not so many", x.win(1, 2), ClawCase.NONE);
        Due.is("win(0, -1)", x.win(0, -1), 4);
        Due.is("win(0, 0)", x.win(0, 0), 1);
        Due.is("win(0, 1)", x.win(0, 1), 3);
        Due.is("win(0, 2)", x.win(0, 2), 1);
        Due.is("win(0, 3)", x.win(0, 3), 3);
        Due.is("win(0, 4)", x.win(0, 4), ClawCase.NONE);
        Due.is("win(0, most)", x.win(0, Integer.MAX_VALUE), ClawCase.NONE);
        x.play(1);
        x.play(3);
        Due.is("win(1, -1) of one that is WON", x.win(1, -1), 0);
        Due.is("win(1, 0) of one that is WON", x.win(1, 0), ClawCase.NONE);
        ClawCase never = Due.read("g0,0,1;b1,1;");
        Due.is("win(0, -1)", never.win(0, -1), ClawCase.NONE);
        Due.is("win(0, 0)", never.win(0, 0), ClawCase.NONE);
        Due.is("win(0, -2)", never.win(0, -2), ClawCase.BAD);
        Due.is("win(1, 0)", never.win(1, 0), ClawCase.BAD);
        Due.is("win(-1, 0)", never.win(-1, 0), ClawCase.BAD);
        Due.is("win(0, 0) without a case", new ClawCase().win(0, 0), ClawCase.BAD);
    }

    private static void mostWon() {
        ClawCase x = Due.read("g9,9,1;b1,1;b9,1;b3,2;b5,4;");
        Due.is("haul(1, -1)", x.haul(1, -1), 1);
        Due.is("haul(1, 0): most weight", x.haul(1, 0), 1);
        Due.is("haul(2, -1)", x.haul(2, -1), 2);
        Due.is("haul(2, 0)", x.haul(2, 0), 1);
        Due.is("haul(2, 1)", x.haul(2, 1), 4);
        Due.is("haul(4, -1)", x.haul(4, -1), 4);
        Due.is("haul(4, 1): the first row", x.haul(4, 1), 1);
        Due.is("haul(4, 3)", x.haul(4, 3), 4);
        Due.is("haul(4, 4): not so many", x.haul(4, 4), ClawCase.NONE);
        x.play(1);
        Due.is("haul(1, -1): all that are WON then", x.haul(1, -1), 2);
        Due.is("haul(1, 0)", x.haul(1, 0), 4);
        Due.is("haul(0, 0)", x.haul(0, 0), ClawCase.BAD);
        Due.is("haul(5, 0)", x.haul(5, 0), ClawCase.BAD);
        Due.is("haul(1, -2)", x.haul(1, -2), ClawCase.BAD);
        Due.is("haul(9, -9) without a case", new ClawCase().haul(9, -9), ClawCase.STATE);
        ClawCase none = Due.read("g0,0,1;b5,5;");
        Due.is("haul(3, -1) of none", none.haul(3, -1), 0);
        Due.is("haul(3, 2): the first row", none.haul(3, 2), 1);
    }

    private static void shares() {
        ClawCase x = Due.read("g9,9,1;b3,1;b2,2;b2,3;b9,4;");
        x.play(1);
        x.play(2);
        x.play(3);
        // 10 by 3, 2, 2 of 7: 4, 2, 2, and 2 over, to the first two
        Due.is("share(0, 10)", x.share(0, 10), 5);
        Due.is("share(1, 10)", x.share(1, 10), 3);
        Due.is("share(2, 10)", x.share(2, 10), 2);
        Due.is("share(3, 10): not WON", x.share(3, 10), 0);
        Due.is("share(0, 0)", x.share(0, 0), 0);
        Due.is("share(0, 1)", x.share(0, 1), 1);
        Due.is("share(1, 1)", x.share(1, 1), 0);
        Due.is("share(0, 7)", x.share(0, 7), 3);
        Due.is("all of 999", x.share(0, 999) + x.share(1, 999) + x.share(2, 999), 999);
        Due.is("share(0, 1000)", x.share(0, 1000), ClawCase.BAD);
        Due.is("share(0, -1)", x.share(0, -1), ClawCase.BAD);
        Due.is("share(4, 1)", x.share(4, 1), ClawCase.BAD);
        Due.is("share(-1, 1)", x.share(-1, 1), ClawCase.BAD);
    }

    private static void fitting() {
        // GRIP 5: toy 0 goes to WON by the first play of the round, if NEED is 5 at most
        ClawCase x = Due.read("g5,2,2;b5,1;b1,5;");
        x.row(0, 0, 3);
        Due.is("SORTS: a slick one needs 7", x.fits(0, 0, 0, 1, 0), 62 - 4);
        Due.is("WEIGHTS 1 to 5", x.fits(0, 0, 0, 1, 1), 62);
        Due.is("LOWS 5 to 9", x.fits(0, 0, 0, 1, 2), 1023 - 31);
        Due.is("HIGHS, all", x.fits(0, 0, 0, 1, 3), 1023);
        x.set(0, 0, 1);
        x.set(0, 1, 1);
        Due.is("SORTS that stay", x.fits(0, 0, 0, 2, 0), 4);
        Due.is("WEIGHTS that stay", x.fits(0, 0, 0, 2, 1), 1022 - 62);
        Due.is("LOWS by which it stays", x.fits(0, 0, 0, 2, 2), 31);
        x.set(0, 0, 9);
        Due.is("it cannot be BROKEN", x.fits(0, 0, 0, 1, 0), 0);
        twelvePlays();
        strongPlays();
    }

    private static void twelvePlays() {
        // the 1st, 6th, 11th of the round are at 1; GRIP is HIGH at each 5th by its number
        ClawCase x = Due.read("g0,9,6;b9,1;");
        x.row(1, 2, 13);
        for (int i = 1; i <= 12; i++) {
            x.set(1, i, i < 6 ? 1 : 0);
        }
        Due.is("WEIGHTS", x.fits(0, 1, 1, 12, 1), 1022);
        Due.is("SORTS", x.fits(0, 1, 1, 12, 0), 62 - 4);
        Due.is("HIGHS", x.fits(0, 1, 1, 12, 3), 512);
        Due.is("LOWS", x.fits(0, 1, 1, 12, 2), 511);
        x.play(5);
        Due.is("HIGHS: the numbers go on", x.fits(0, 1, 1, 12, 3), 0);
        Due.is("LOWS", x.fits(0, 1, 1, 12, 2), 0);
    }

    private static void strongPlays() {
        // an egg breaks where nothing lies, a ball falls; others too
        ClawCase x = Due.read("g0,4,3;o4,3;");
        x.row(0, 1, 3);
        x.set(0, 0, 3);
        x.set(0, 1, 3);
        x.set(0, 2, 9);
        Due.is("SORTS: an egg alone breaks", x.fits(0, 0, 0, 3, 0), 32);
        x.set(0, 2, 2);
        Due.is("SORTS: a bear, a ball fall at 2", x.fits(0, 0, 0, 3, 0), 2 + 16);
        Due.is("WEIGHTS: 4 falls at 2", x.fits(0, 0, 0, 3, 1), 16);
        Due.is("HIGHS", x.fits(0, 0, 0, 3, 3), 16);
    }

    private static void fittingRefused() {
        ClawCase x = Due.read("g5,2,2;b5,1;");
        x.row(0, 0, 12);
        Due.is("fits(0, 0, 0, 12, 0)", x.fits(0, 0, 0, 12, 0), 62 - 4);
        Due.is("fits(0, 0, 1, 12, 0)", x.fits(0, 0, 1, 12, 0), Due.PLACE);
        Due.is("status()", x.status(), 2);
        Due.is("fits(0, 0, -1, 1, 0)", x.fits(0, 0, -1, 1, 0), Due.PLACE);
        Due.is("fits(0, 0, most, 1, 0)", x.fits(0, 0, Integer.MAX_VALUE, 1, 0), Due.PLACE);
        Due.is("fits(0, 1, 0, 1, 0)", x.fits(0, 1, 0, 1, 0), Due.NULL_ROW);
        Due.is("status()", x.status(), 1);
        Due.is("fits(0, 1, 0, 0, 0): BAD is ahead", x.fits(0, 1, 0, 0, 0), ClawCase.BAD);
        Due.is("fits(0, 0, 0, 13, 0)", x.fits(0, 0, 0, 13, 0), ClawCase.BAD);
        Due.is("fits(0, 0, 0, 1, 4)", x.fits(0, 0, 0, 1, 4), ClawCase.BAD);
        Due.is("fits(0, 0, 0, 1, -1)", x.fits(0, 0, 0, 1, -1), ClawCase.BAD);
        Due.is("fits(1, 0, 0, 1, 0)", x.fits(1, 0, 0, 1, 0), ClawCase.BAD);
        Due.is("fits(-1, 0, 0, 1, 0)", x.fits(-1, 0, 0, 1, 0), ClawCase.BAD);
        Due.is("fits(0, 8, 0, 1, 0)", x.fits(0, 8, 0, 1, 0), ClawCase.BAD);
        Due.is("fits(0, -1, 0, 1, 0)", x.fits(0, -1, 0, 1, 0), ClawCase.BAD);
        Due.is("status() behind BAD", x.status(), 1);
        x.fits(0, 0, 0, 1, 0);
        Due.is("status() behind a good one", x.status(), 0);
    }

    private static void fraction(ClawCase x, int toy, int column, int n, int c, int above, int below) {
        String call = "chance(" + toy + ", " + column + ", " + n + ", " + c + ", ";
        Due.is(call + "0)", x.chance(toy, column, n, c, 0), above);
        Due.is(call + "1)", x.chance(toy, column, n, c, 1), below);
    }

    private static void chances() {
        ClawCase x = Due.read("g0,5,9;b5,1;b5,1;");
        fraction(x, 1, 1, 1, 3, 3, 10);
        fraction(x, 1, 1, 2, 3, 51, 100);
        fraction(x, 0, 1, 2, 3, 9, 100);
        fraction(x, 0, 1, 2, 5, 1, 4);
        fraction(x, 1, 1, 8, 1, 100000000 - 43046721, 100000000);
        fraction(x, 1, 1, 8, 10, 1, 1);
        fraction(x, 1, 1, 8, 0, 0, 1);
        fraction(x, 1, 1, 0, 10, 0, 1);
        fraction(x, 1, 2, 8, 5, 0, 1);
        ClawCase won = Due.read("g9,0,9;b5,1;b5,1;");
        won.play(1);
        fraction(won, 1, 3, 8, 3, 1, 1);
        fraction(won, 1, 3, 0, 3, 1, 1);
        // LOW wins, HIGH does not: by 10 less c
        fraction(won, 0, 1, 1, 3, 7, 10);
        Due.is("n = 9", x.chance(0, 1, 9, 5, 0), ClawCase.BAD);
        Due.is("n = -1", x.chance(0, 1, -1, 5, 0), ClawCase.BAD);
        Due.is("c = 11", x.chance(0, 1, 1, 11, 0), ClawCase.BAD);
        Due.is("c = -1", x.chance(0, 1, 1, -1, 0), ClawCase.BAD);
        Due.is("what = 2", x.chance(0, 1, 1, 5, 2), ClawCase.BAD);
        Due.is("what = -1", x.chance(0, 1, 1, 5, -1), ClawCase.BAD);
        Due.is("column 0", x.chance(0, 0, 1, 5, 0), ClawCase.BAD);
        Due.is("column 6", x.chance(0, 6, 1, 5, 0), ClawCase.BAD);
        Due.is("toy 2", x.chance(2, 1, 1, 5, 0), ClawCase.BAD);
        Due.is("toy -1", x.chance(-1, 1, 1, 5, 0), ClawCase.BAD);
    }

    private static void draws() {
        // SEED 1: X is 16807 (put at 3, play at 8403 % 5 + 1 = 4), then 282475249 (play at 5)
        ClawCase x = Due.read("g9,9,1;b1,4;b1,5;");
        Due.is("drawn(0, 1, 0)", x.drawn(0, 1, 0), 0);
        Due.is("drawn(1, 1, 0)", x.drawn(1, 1, 0), 1);
        Due.is("drawn(2, 1, 0)", x.drawn(2, 1, 0), 2);
        ClawCase egg = Due.read("g4,4,1;e4,4;");
        Due.is("drawn(1, 1, 1)", egg.drawn(1, 1, 1), 1);
        // it is BROKEN, then put at 282475249 % 5 + 1 = 5, and is played for there: falls at 4, where nothing lies
        Due.is("drawn(2, 1, 1)", egg.drawn(2, 1, 1), 1);
        Due.is("drawn(2, 1, 0)", egg.drawn(2, 1, 0), 0);
        // X is 16807 * 999999 % 2147483647 = 1774597664: play at 887298832 % 5 + 1 = 3
        ClawCase third = Due.read("g9,9,1;b1,3;");
        Due.is("drawn(1, 999999, 0)", third.drawn(1, 999999, 0), 1);
        Due.is("drawn(60, 1, 1)", x.drawn(60, 1, 1), 0);
        Due.is("drawn(61, 1, 0)", x.drawn(61, 1, 0), ClawCase.BAD);
        Due.is("drawn(-1, 1, 0)", x.drawn(-1, 1, 0), ClawCase.BAD);
        Due.is("drawn(1, 0, 0)", x.drawn(1, 0, 0), ClawCase.BAD);
        Due.is("drawn(1, 1000000, 0)", x.drawn(1, 1000000, 0), ClawCase.BAD);
        Due.is("drawn(1, 1, 2)", x.drawn(1, 1, 2), ClawCase.BAD);
        Due.is("drawn(1, 1, -1)", x.drawn(1, 1, -1), ClawCase.BAD);
        Due.is("drawn(99, 0, 9) without a case", new ClawCase().drawn(99, 0, 9), ClawCase.STATE);
    }

    private static void nothingChanges() {
        ClawCase x = Due.read("g3,8,2;o3,1;e2,1;b1,1;s4,4;");
        x.play(1);
        int[] ahead = Due.placesOf(x);
        x.row(0, 0, 12);
        x.win(3, -1);
        x.haul(4, 2);
        x.fits(0, 0, 0, 12, 0);
        x.chance(0, 1, 8, 5, 0);
        x.drawn(60, 77, 1);
        Due.row("places", Due.placesOf(x), ahead);
        Due.is("PLAYS", x.count(2), 1);
        Due.is("ACTS", x.count(8), 1);
        Due.is("kind(0)", x.kind(0), 4);
        Due.is("LOW", x.count(3), 3);
        Due.is("HIGH", x.count(4), 8);
        Due.is("undo()", x.undo(), 0);
        Due.row("places", Due.placesOf(x), 1, 1, 1, 4);
    }
}
