/** Promises 9 to 16, 19, 24, 25 and 30: plays, acts, what is looked at, images, counts. */
public final class ActsTest {
    public static void main(String[] args) {
        needs();
        gripIsStrongEverySoManyPlays();
        carried();
        rolls();
        eggs();
        putAgain();
        otherGrips();
        undone();
        oldestActIsForgotten();
        playsAreFull();
        lookedAt();
        refusals();
        images();
        counts();
        Due.end();
    }

    private static void needs() {
        ClawCase x = Due.read("g0,0,1;b7,1;s7,1;l7,1;o7,1;e7,1;l1,2;s9,3;");
        int[] need = new int[7];
        for (int i = 0; i < 7; i++) {
            need[i] = x.toy(i, 2);
        }
        Due.row("NEED", need, 7, 9, 4, 7, 7, 1, 11);
    }

    private static void gripIsStrongEverySoManyPlays() {
        ClawCase x = Due.read("g1,8,3;b5,1;b5,1;");
        Due.is("grips(0)", x.grips(0), 1);
        Due.is("grips(2)", x.grips(2), 8);
        Due.is("grips(59)", x.grips(59), 8);
        Due.is("grips(60)", x.grips(60), 1);
        Due.is("first play", x.play(1), 1);
        Due.is("grips(1)", x.grips(1), 8);
        Due.is("second play", x.play(1), 1);
        Due.is("gives(1)", x.gives(1), 0);
        Due.is("third play", x.play(1), 0);
        Due.is("gives(1)", x.gives(1), 1);
        Due.is("fourth play", x.play(1), 1);
        Due.is("grips(61)", x.grips(61), ClawCase.BAD);
        Due.is("grips(-1)", x.grips(-1), ClawCase.BAD);
        ClawCase each = Due.read("g1,8,1;b5,1;");
        Due.is("EVERY 1", each.play(1), 0);
    }

    private static void carried() {
        ClawCase x = Due.read("g5,5,1;b5,1;b5,2;b4,4;b3,4;b2,5;b1,5;");
        Due.is("play(1)", x.play(1), 0);
        Due.is("play(2): GRIP is 4 at 1", x.play(2), 1);
        Due.is("play(4), weight 3: GRIP is 2 at 1", x.play(4), 1);
        Due.is("how it lies there", x.toy(3, 4), 1);
        Due.is("play(4), weight 4: GRIP is 3 at 2", x.play(4), 2);
        Due.is("play(5), weight 1: GRIP is 1 at 1", x.play(5), 0);
        Due.is("play(5), weight 2: GRIP is 1 at 1", x.play(5), 1);
        Due.row("places", Due.placesOf(x), 0, 1, 2, 1, 1, 0);
        Due.is("play(3): none", x.play(3), ClawCase.NONE);
        Due.is("PLAYS", x.count(2), 7);
    }

    private static void rolls() {
        ClawCase x = Due.read("g0,0,1;b1,2;b1,2;o1,2;b1,1;b1,3;");
        Due.is("2 fewer on both sides: 1 less", x.play(2), 1);
        Due.is("it is 2 there, 2 behind: stays", x.play(1), 1);
        ClawCase right = Due.read("g0,0,1;b1,2;o1,2;b1,1;");
        Due.is("1 fewer at 1: 2 fewer at 3", right.play(2), 3);
        Due.is("alone: none has 2 fewer", right.play(3), 3);
        ClawCase edge = Due.read("g0,0,1;b1,1;o1,1;b1,5;e1,5;");
        Due.is("not below 1", edge.play(1), 2);
        Due.is("an egg rolls and does not break", edge.play(5), 4);
        ClawCase top = Due.read("g0,0,1;b1,5;b1,4;o1,5;");
        Due.is("not above 5", top.play(5), 5);
        ClawCase still = Due.read("g0,0,1;b1,2;b1,2;s1,2;b1,4;l1,4;");
        Due.is("a slick one stays", still.play(2), 2);
        Due.is("one with a loop stays", still.play(4), 4);
        ClawCase carried = Due.read("g9,9,1;b1,1;b1,1;o1,1;");
        Due.is("a ball that is held does not roll", carried.play(1), 0);
    }

    private static void eggs() {
        ClawCase x = Due.read("g5,5,1;e5,3;e5,5;b1,4;");
        Due.is("it falls on a bear", x.play(5), 4);
        Due.is("it falls where nothing lies", x.play(3), 9);
        Due.is("BROKEN", x.count(7), 1);
        Due.is("NEED yet", x.toy(0, 2), 5);
        Due.is("under", x.toy(0, 4), 0);
        ClawCase ball = Due.read("g5,5,1;o5,3;");
        Due.is("a ball does not break", ball.play(3), 2);
        ClawCase won = Due.read("g9,9,1;e5,5;");
        Due.is("an egg is won", won.play(5), 0);
    }

    private static void putAgain() {
        ClawCase x = Due.read("g5,5,1;e5,3;b1,1;b1,2;");
        x.play(3);
        x.play(1);
        Due.row("places", Due.placesOf(x), 2, 0, 2);
        Due.is("put(0, 1)", x.put(0, 1), ClawCase.STATE);
        Due.is("put(1, 2)", x.put(1, 2), 3);
        Due.is("uppermost", x.column(2, 1), 1);
        Due.is("put(1, 6): BAD is ahead of STATE", x.put(1, 6), ClawCase.BAD);
        Due.is("put(3, 1)", x.put(3, 1), ClawCase.BAD);
        ClawCase broken = Due.read("g5,5,1;e5,3;");
        broken.play(3);
        Due.is("put(0, 4)", broken.put(0, 4), 1);
        Due.is("where", broken.toy(0, 1), 4);
        Due.is("BROKEN", broken.count(7), 0);
        Due.is("put(0, 0)", broken.put(0, 0), ClawCase.BAD);
        Due.is("put(-1, 1)", broken.put(-1, 1), ClawCase.BAD);
    }

    private static void otherGrips() {
        ClawCase x = Due.read("g1,8,2;b5,1;");
        Due.is("grip(0, 7)", x.grip(0, 7), 1);
        Due.is("grip(1, 0)", x.grip(1, 0), 8);
        Due.is("grip(1, 9)", x.grip(1, 9), 0);
        Due.is("LOW", x.count(3), 7);
        Due.is("HIGH", x.count(4), 9);
        Due.is("grip(0, 10)", x.grip(0, 10), ClawCase.BAD);
        Due.is("grip(0, -1)", x.grip(0, -1), ClawCase.BAD);
        Due.is("grip(2, 0)", x.grip(2, 0), ClawCase.BAD);
        Due.is("grip(-1, 0)", x.grip(-1, 0), ClawCase.BAD);
        Due.is("ACTS", x.count(8), 3);
        Due.is("play(1)", x.play(1), 0);
        Due.is("grip(9, 99) without a case", new ClawCase().grip(9, 99), ClawCase.STATE);
    }

    private static void undone() {
        ClawCase x = Due.read("g5,5,1;b5,1;b5,2;b1,2;");
        x.play(1);
        x.play(4);
        x.put(0, 2);
        x.grip(1, 2);
        x.grip(0, 3);
        x.play(2);
        Due.is("undo() of a play", x.undo(), 5);
        Due.is("PLAYS", x.count(2), 2);
        Due.is("undo() of LOW", x.undo(), 4);
        Due.is("LOW", x.count(3), 5);
        Due.is("HIGH", x.count(4), 2);
        Due.is("undo() of HIGH", x.undo(), 3);
        Due.is("HIGH", x.count(4), 5);
        Due.is("uppermost", x.column(2, 1), 0);
        Due.is("undo() of put", x.undo(), 2);
        Due.is("where", x.toy(0, 1), 0);
        Due.is("uppermost", x.column(2, 1), 2);
        Due.is("undo() of a play for none", x.undo(), 1);
        Due.is("PLAYS", x.count(2), 1);
        Due.is("undo() of the first", x.undo(), 0);
        Due.row("places", Due.placesOf(x), 1, 2, 2);
        Due.is("PLAYS", x.count(2), 0);
        Due.is("undo() of none", x.undo(), ClawCase.STATE);
    }

    private static void oldestActIsForgotten() {
        ClawCase x = Due.read("g0,9,9;b1,1;");
        for (int i = 1; i <= 30; i++) {
            x.play(2);
        }
        Due.is("ACTS", x.count(8), 24);
        for (int i = 23; i >= 0; i--) {
            Due.is("undo()", x.undo(), i);
        }
        Due.is("undo()", x.undo(), ClawCase.STATE);
        Due.is("PLAYS", x.count(2), 6);
        x.grip(0, 4);
        Due.is("undo()", x.undo(), 0);
        Due.is("LOW", x.count(3), 0);
    }

    /** This takes more calls than are promised for one object: no fewer would tell. */
    private static void playsAreFull() {
        ClawCase x = Due.read("g0,9,9;b1,1;");
        for (int i = 1; i <= 9998; i++) {
            x.play(2);
        }
        Due.is("play(2), the last", x.play(2), ClawCase.NONE);
        Due.is("play(2)", x.play(2), ClawCase.FULL);
        Due.is("play(6): BAD is ahead of FULL", x.play(6), ClawCase.BAD);
        Due.is("PLAYS", x.count(2), 9999);
        Due.is("undo()", x.undo(), 23);
        Due.is("play(2) anew", x.play(2), ClawCase.NONE);
    }

    private static void lookedAt() {
        ClawCase x = Due.read("g9,9,1;b1,2;s2,2;o3,2;e4,5;");
        Due.is("toy(0, 3)", x.toy(0, 3), 2);
        Due.is("toy(1, 3)", x.toy(1, 3), 1);
        Due.is("toy(1, 4)", x.toy(1, 4), 1);
        Due.is("toy(2, 4)", x.toy(2, 4), 2);
        Due.is("column(2, 0)", x.column(2, 0), 3);
        Due.is("column(2, 1)", x.column(2, 1), 2);
        Due.is("column(2, 2)", x.column(2, 2), 7);
        Due.is("column(1, 1)", x.column(1, 1), ClawCase.NONE);
        Due.is("column(5, 2)", x.column(5, 2), 8);
        Due.is("gives(2)", x.gives(2), 0);
        Due.is("gives(1)", x.gives(1), ClawCase.NONE);
        Due.is("PLAYS", x.count(2), 0);
        Due.is("enough(2)", x.enough(2), 4);
        Due.is("enough(5)", x.enough(5), 8);
        Due.is("enough(3)", x.enough(3), ClawCase.NONE);
        x.play(2);
        Due.is("toy(2, 1)", x.toy(2, 1), 0);
        Due.is("toy(2, 3)", x.toy(2, 3), 0);
        Due.is("toy(2, 4)", x.toy(2, 4), 0);
        Due.is("toy(0, 3)", x.toy(0, 3), 1);
        ClawCase most = Due.read("g0,0,1;s9,5;l1,1;");
        Due.is("enough(5)", most.enough(5), 15);
        Due.is("enough(1)", most.enough(1), 1);
        ClawCase falls = Due.read("g4,4,1;e4,3;o9,1;b1,1;o1,1;");
        Due.is("gives(3): it would break", falls.gives(3), 9);
        Due.is("gives(1)", falls.gives(1), 0);
        falls.grip(1, 0);
        Due.is("gives(1): it would roll", falls.gives(1), 2);
        Due.is("it lies there yet", falls.toy(3, 1), 1);
    }

    private static void refusals() {
        ClawCase x = Due.read("g1,1,1;b1,1;");
        ClawCase none = new ClawCase();
        int[] wrong = {0, 6, -1, Integer.MAX_VALUE, Integer.MIN_VALUE};
        for (int column : wrong) {
            Due.is("play(" + column + ")", x.play(column), ClawCase.BAD);
            Due.is("column(" + column + ", 0)", x.column(column, 0), ClawCase.BAD);
            Due.is("gives(" + column + ")", x.gives(column), ClawCase.BAD);
            Due.is("enough(" + column + ")", x.enough(column), ClawCase.BAD);
            Due.is("play(" + column + ") without a case", none.play(column), ClawCase.STATE);
            Due.is("column(" + column + ", 9) without a case", none.column(column, 9), ClawCase.STATE);
            Due.is("gives(" + column + ") without a case", none.gives(column), ClawCase.STATE);
            Due.is("enough(" + column + ") without a case", none.enough(column), ClawCase.STATE);
            Due.is("grips(" + column + ") without a case", none.grips(column), ClawCase.STATE);
        }
        Due.is("toy(1, 0)", x.toy(1, 0), ClawCase.BAD);
        Due.is("toy(-1, 0)", x.toy(-1, 0), ClawCase.BAD);
        Due.is("toy(0, 5)", x.toy(0, 5), ClawCase.BAD);
        Due.is("toy(0, -1)", x.toy(0, -1), ClawCase.BAD);
        Due.is("toy(0, 0) without a case", none.toy(0, 0), ClawCase.BAD);
        Due.is("put(0, 1) without a case", none.put(0, 1), ClawCase.BAD);
        Due.is("column(1, 3)", x.column(1, 3), ClawCase.BAD);
        Due.is("column(1, -1)", x.column(1, -1), ClawCase.BAD);
        Due.is("PLAYS", x.count(2), 0);
        Due.is("ACTS", x.count(8), 0);
    }

    private static void images() {
        ClawCase x = Due.read("g9,8,3;b1,1;e2,4;");
        Due.is("restore(0): none was kept", x.restore(0), ClawCase.STATE);
        x.play(1);
        Due.is("image(1)", x.image(1), 1);
        x.play(4);
        x.grip(0, 0);
        Due.is("restore(1)", x.restore(1), 1);
        Due.is("ACTS", x.count(8), 0);
        Due.is("undo()", x.undo(), ClawCase.STATE);
        Due.row("places", Due.placesOf(x), 0, 4);
        Due.is("LOW", x.count(3), 9);
        Due.is("PLAYS", x.count(2), 1);
        Due.tell(x, "g1,1,1;l5,5;o6,5;s7,5;");
        Due.is("restore(0)", x.restore(0), ClawCase.STATE);
        Due.is("TOYS", x.count(1), 3);
        Due.is("image(0)", x.image(0), 1);
        Due.is("restore(1): kept behind glass()", x.restore(1), 1);
        Due.is("TOYS", x.count(1), 2);
        Due.is("EVERY", x.count(5), 3);
        Due.is("kind(1)", x.kind(1), 5);
        x.play(4);
        Due.is("restore(1) again", x.restore(1), 1);
        Due.row("places", Due.placesOf(x), 0, 4);
        Due.is("restore(0)", x.restore(0), 1);
        Due.is("toy(2, 4)", x.toy(2, 4), 2);
        Due.is("image(2)", x.image(2), ClawCase.BAD);
        Due.is("image(-1)", x.image(-1), ClawCase.BAD);
        Due.is("restore(2)", x.restore(2), ClawCase.BAD);
        Due.is("restore(-1)", x.restore(-1), ClawCase.BAD);
        ClawCase none = new ClawCase();
        Due.is("image(2) without a case", none.image(2), ClawCase.BAD);
        Due.is("image(1) without a case", none.image(1), ClawCase.STATE);
    }

    private static void counts() {
        ClawCase x = Due.read("g5,7,4;b1,1;e5,3;b2,5;o1,1;");
        x.play(1);
        x.play(1);
        x.play(3);
        x.row(4, 0, 2);
        x.feed('g');
        int[] counts = new int[10];
        for (int i = 0; i < 10; i++) {
            counts[i] = x.count(i);
        }
        Due.row("count", counts, 1, 4, 3, 5, 7, 4, 9, 2, 3, 1);
        Due.is("count(10)", x.count(10), ClawCase.BAD);
        Due.is("count(-1)", x.count(-1), ClawCase.BAD);
    }
}
