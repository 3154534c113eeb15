import java.math.BigInteger;
import java.util.ArrayDeque;
import java.util.ArrayList;
import java.util.Arrays;
import java.util.Deque;
import java.util.List;

/**
 * The document told a second time, by other means than the class has: columns as lists, acts undone by
 * whole copies, rows of columns counted through, faults by a table. ModelTest compares both.
 */
final class Model {
    static final int NONE = -1000000, BAD = -1000001, STATE = -1000002, FULL = -1000003;

    static final class World {
        String sorts = "";
        int[] weights = new int[0];
        List<List<Integer>> columns = new ArrayList<>();
        List<Integer> won = new ArrayList<>();
        List<Integer> broken = new ArrayList<>();
        int low, high, every, plays;

        World() {
            for (int i = 0; i < 5; i++) {
                columns.add(new ArrayList<>());
            }
        }

        World twin() {
            World w = new World();
            w.sorts = sorts;
            w.weights = weights.clone();
            for (int i = 0; i < 5; i++) {
                w.columns.get(i).addAll(columns.get(i));
            }
            w.won.addAll(won);
            w.broken.addAll(broken);
            w.low = low;
            w.high = high;
            w.every = every;
            w.plays = plays;
            return w;
        }

        int where(int toy) {
            for (int i = 0; i < 5; i++) {
                if (columns.get(i).contains(toy)) {
                    return i + 1;
                }
            }
            return won.contains(toy) ? 0 : 9;
        }

        int need(int toy) {
            char sort = sorts.charAt(toy);
            int w = weights[toy];
            return sort == 's' ? w + 2 : sort == 'l' ? w / 2 + 1 : w;
        }

        int play(int column) {
            return play(column, (plays + 1) % every == 0 ? high : low);
        }

        int play(int column, int grip) {
            plays++;
            List<Integer> own = columns.get(column - 1);
            if (own.isEmpty()) {
                return NONE;
            }
            int toy = own.get(own.size() - 1);
            char sort = sorts.charAt(toy);
            if (grip < need(toy)) {
                if (sort == 'o' || sort == 'e') {
                    for (int beside : new int[] {column - 1, column + 1}) {
                        if (beside >= 1 && beside <= 5 && own.size() - columns.get(beside - 1).size() >= 2) {
                            own.remove(own.size() - 1);
                            columns.get(beside - 1).add(toy);
                            return beside;
                        }
                    }
                }
                return column;
            }
            own.remove(own.size() - 1);
            for (int steps = 1; column - steps >= 1; steps++) {
                if (grip - steps < need(toy)) {
                    List<Integer> there = columns.get(column - steps - 1);
                    if (sort == 'e' && there.isEmpty()) {
                        broken.add(toy);
                        return 9;
                    }
                    there.add(toy);
                    return column - steps;
                }
            }
            won.add(toy);
            return 0;
        }

        int put(int toy, int column) {
            won.remove((Integer) toy);
            broken.remove((Integer) toy);
            columns.get(column - 1).add(toy);
            return columns.get(column - 1).size();
        }

        int bits(List<Integer> toys) {
            int bits = 0;
            for (int toy : toys) {
                bits |= 1 << toy;
            }
            return bits;
        }
    }

    private final int[][] rows = new int[8][];
    private final int[] lanes = new int[8];
    private final StringBuilder tape = new StringBuilder();
    private World world = null;
    private final Deque<World> past = new ArrayDeque<>();
    private final World[] images = new World[2];
    private int fault = 0, finding = 0;
    private List<Integer> trace = new ArrayList<>();

    private int find(int number) {
        finding = number;
        return -1000010 - number;
    }

    private int good(int answer) {
        finding = 0;
        return answer;
    }

    private boolean toyless(int toy) {
        return world == null || toy < 0 || toy >= world.sorts.length();
    }

    private static boolean out(int v, int least, int most) {
        return v < least || v > most;
    }

    int row(int row, int lane, int n) {
        if (out(row, 0, 7) || out(lane, 0, 2) || n > 40) {
            return BAD;
        }
        if (n < 0) {
            return find(4);
        }
        rows[row] = new int[n];
        lanes[row] = lane;
        return good(n);
    }

    int set(int row, int i, int v) {
        if (out(row, 0, 7)) {
            return BAD;
        }
        if (rows[row] == null) {
            return find(1);
        }
        if (out(i, 0, rows[row].length - 1)) {
            return find(2);
        }
        int spare = lanes[row] == 0 ? 24 : lanes[row] == 1 ? 16 : 0;
        rows[row][i] = v << spare >> spare;
        return good(rows[row][i]);
    }

    int copy(int a, int i, int b, int j, int n) {
        if (out(a, 0, 7) || out(b, 0, 7)) {
            return BAD;
        }
        if (rows[a] == null || rows[b] == null) {
            return find(1);
        }
        if (lanes[a] != lanes[b]) {
            return find(5);
        }
        if (i < 0 || j < 0 || n < 0 || (long) i + n > rows[a].length || (long) j + n > rows[b].length) {
            return find(2);
        }
        int[] ahead = rows[a].clone();
        for (int k = 0; k < n; k++) {
            rows[b][j + k] = ahead[i + k];
        }
        return good(n);
    }

    int drop(int row) {
        if (out(row, 0, 7)) {
            return BAD;
        }
        if (rows[row] == null) {
            return find(1);
        }
        int n = rows[row].length;
        rows[row] = null;
        return good(n);
    }

    int feed(int letter) {
        if (out(letter, 0, 255)) {
            return BAD;
        }
        if (tape.length() == 70) {
            return FULL;
        }
        tape.append((char) letter);
        return tape.length();
    }

    int glass() {
        String text = tape.toString();
        tape.setLength(0);
        // what may stand at each token: law, then toys again and again
        String[] law = {"g", "0-9", ",", "0-9", ",", "1-9", ";"};
        String[] toy = {"bsloe", "1-9", ",", "1-5", ";"};
        List<String> tokens = new ArrayList<>();
        int at = 0;
        for (int k = 0; ; k++) {
            boolean inLaw = k < law.length;
            int turn = inLaw ? 0 : (k - law.length) / toy.length;
            String may = inLaw ? law[k] : toy[(k - law.length) % toy.length];
            if (at == text.length()) {
                if (may.equals("bsloe") && turn >= 1) {
                    break;
                }
                return refuse(at, 1);
            }
            String token = text.substring(at).replaceFirst("(?s)^([0-9]+|.).*$", "$1");
            boolean number = token.matches("[0-9]+");
            if (may.contains("-")) {
                if (!number || token.length() > 2) {
                    return refuse(at, 1);
                }
                if (out(Integer.parseInt(token), may.charAt(0) - '0', may.charAt(2) - '0')) {
                    return refuse(at, 2);
                }
            } else if (number || !may.contains(token)) {
                return refuse(at, 1);
            } else if (turn >= 7) {
                return refuse(at, 3);
            }
            tokens.add(token);
            at += token.length();
        }
        world = new World();
        past.clear();
        world.low = Integer.parseInt(tokens.get(1));
        world.high = Integer.parseInt(tokens.get(3));
        world.every = Integer.parseInt(tokens.get(5));
        int n = (tokens.size() - law.length) / toy.length;
        world.weights = new int[n];
        for (int t = 0; t < n; t++) {
            int first = law.length + t * toy.length;
            world.sorts += tokens.get(first);
            world.weights[t] = Integer.parseInt(tokens.get(first + 1));
            world.columns.get(Integer.parseInt(tokens.get(first + 3)) - 1).add(t);
        }
        return n;
    }

    private int refuse(int place, int number) {
        fault = number;
        return -1000100 - place;
    }

    int fault() {
        return fault;
    }

    private void keep() {
        past.addLast(world.twin());
        if (past.size() > 24) {
            past.removeFirst();
        }
    }

    int play(int column) {
        if (world == null) {
            return STATE;
        }
        if (out(column, 1, 5)) {
            return BAD;
        }
        keep();
        return world.play(column);
    }

    int put(int toy, int column) {
        if (toyless(toy) || out(column, 1, 5)) {
            return BAD;
        }
        if (!out(world.where(toy), 1, 5)) {
            return STATE;
        }
        keep();
        return world.put(toy, column);
    }

    int grip(int which, int v) {
        if (world == null) {
            return STATE;
        }
        if (out(which, 0, 1) || out(v, 0, 9)) {
            return BAD;
        }
        keep();
        int was = which == 0 ? world.low : world.high;
        world.low = which == 0 ? v : world.low;
        world.high = which == 1 ? v : world.high;
        return was;
    }

    int undo() {
        if (past.isEmpty()) {
            return STATE;
        }
        world = past.removeLast();
        return past.size();
    }

    int toy(int toy, int what) {
        if (toyless(toy) || out(what, 0, 4)) {
            return BAD;
        }
        int where = world.where(toy);
        List<Integer> pile = out(where, 1, 5) ? List.of(toy) : world.columns.get(where - 1);
        int[] answers = {world.weights[toy], where, world.need(toy),
            pile.size() - 1 - pile.indexOf(toy), pile.indexOf(toy)};
        return answers[what];
    }

    int column(int column, int what) {
        if (world == null) {
            return STATE;
        }
        if (out(column, 1, 5) || out(what, 0, 2)) {
            return BAD;
        }
        List<Integer> pile = world.columns.get(column - 1);
        int top = pile.isEmpty() ? NONE : pile.get(pile.size() - 1);
        return what == 0 ? pile.size() : what == 1 ? top : world.bits(pile);
    }

    int gives(int column) {
        if (world == null) {
            return STATE;
        }
        return out(column, 1, 5) ? BAD : world.twin().play(column);
    }

    int grips(int k) {
        if (world == null) {
            return STATE;
        }
        if (out(k, 0, 60)) {
            return BAD;
        }
        return (world.plays + k + 1) % world.every == 0 ? world.high : world.low;
    }

    /** Row number r of all rows of n columns, in their order. */
    private static int[] columnsOf(int r, int n) {
        int[] columns = new int[n];
        for (int i = n - 1; i >= 0; i--) {
            columns[i] = r % 5 + 1;
            r /= 5;
        }
        return columns;
    }

    private World played(int[] columns) {
        World w = world.twin();
        for (int c : columns) {
            w.play(c);
        }
        return w;
    }

    int win(int toy, int k) {
        if (toyless(toy) || k < -1) {
            return BAD;
        }
        for (int n = 0; n <= 4; n++) {
            for (int r = 0; r < Math.round(Math.pow(5, n)); r++) {
                int[] columns = columnsOf(r, n);
                if (played(columns).won.contains(toy)) {
                    return k == -1 ? n : k < n ? columns[k] : NONE;
                }
            }
        }
        return NONE;
    }

    int haul(int n, int k) {
        if (world == null) {
            return STATE;
        }
        if (out(n, 1, 4) || k < -1) {
            return BAD;
        }
        int best = -1;
        int[] bestColumns = {};
        for (int r = 0; r < Math.round(Math.pow(5, n)); r++) {
            int[] columns = columnsOf(r, n);
            int value = 0;
            for (int toy : played(columns).won) {
                value += 1000 + world.weights[toy];
            }
            if (value > best) {
                best = value;
                bestColumns = columns;
            }
        }
        return k == -1 ? best / 1000 : k < n ? bestColumns[k] : NONE;
    }

    int enough(int column) {
        if (world == null) {
            return STATE;
        }
        if (out(column, 1, 5)) {
            return BAD;
        }
        for (int grip = 0; grip <= 20; grip++) {
            if (world.twin().play(column, grip) == 0) {
                return grip;
            }
        }
        return NONE;
    }

    int share(int toy, int n) {
        if (toyless(toy) || out(n, 0, 999)) {
            return BAD;
        }
        List<Integer> won = new ArrayList<>(world.won);
        won.sort(null);
        int sum = 0;
        for (int t : won) {
            sum += world.weights[t];
        }
        int[] shares = new int[7];
        for (int t : won) {
            shares[t] = n * world.weights[t] / sum;
        }
        int over = n - Arrays.stream(shares).sum();
        for (int i = 0; i < over && i < won.size(); i++) {
            shares[won.get(i)]++;
        }
        return shares[toy];
    }

    int fits(int toy, int row, int i, int n, int what) {
        if (toyless(toy) || out(row, 0, 7) || out(n, 1, 12) || out(what, 0, 3)) {
            return BAD;
        }
        if (rows[row] == null) {
            return find(1);
        }
        if (i < 0 || (long) i + n > rows[row].length) {
            return find(2);
        }
        int bits = 0;
        for (int v = what < 2 ? 1 : 0; v <= (what == 0 ? 5 : 9); v++) {
            World w = world.twin();
            if (what == 0) {
                w.sorts = w.sorts.substring(0, toy) + " bsloe".charAt(v) + w.sorts.substring(toy + 1);
            } else if (what == 1) {
                w.weights[toy] = v;
            }
            w.low = what == 2 ? v : w.low;
            w.high = what == 3 ? v : w.high;
            boolean so = true;
            for (int k = 0; k < n; k++) {
                w.play(k % 5 + 1);
                so &= w.where(toy) == rows[row][i + k];
            }
            bits |= so ? 1 << v : 0;
        }
        return good(bits);
    }

    int chance(int toy, int column, int n, int c, int what) {
        if (toyless(toy) || out(column, 1, 5) || out(n, 0, 8) || out(c, 0, 10) || out(what, 0, 1)) {
            return BAD;
        }
        BigInteger above = BigInteger.ZERO;
        for (int mask = 0; mask < 1 << n; mask++) {
            World w = world.twin();
            BigInteger way = BigInteger.ONE;
            for (int k = 0; k < n; k++) {
                boolean strong = (mask >> k & 1) == 1;
                w.play(column, strong ? w.high : w.low);
                way = way.multiply(BigInteger.valueOf(strong ? c : 10 - c));
            }
            above = above.add(w.won.contains(toy) ? way : BigInteger.ZERO);
        }
        BigInteger below = BigInteger.TEN.pow(n);
        BigInteger common = above.gcd(below);
        return (what == 0 ? above : below).divide(common).intValueExact();
    }

    int drawn(int n, int seed, int what) {
        if (world == null) {
            return STATE;
        }
        if (out(n, 0, 60) || out(seed, 1, 999999) || out(what, 0, 1)) {
            return BAD;
        }
        World w = world.twin();
        BigInteger x = BigInteger.valueOf(seed);
        int wins = 0;
        for (int k = 0; k < n; k++) {
            x = x.multiply(BigInteger.valueOf(16807)).mod(BigInteger.valueOf(2147483647));
            int now = x.intValueExact();
            int toy = now % w.sorts.length();
            if (out(w.where(toy), 1, 5)) {
                w.put(toy, now % 5 + 1);
            }
            wins += w.play(now / 2 % 5 + 1) == 0 ? 1 : 0;
        }
        return what == 0 ? wins : w.broken.size();
    }

    int image(int k) {
        if (out(k, 0, 1)) {
            return BAD;
        }
        if (world == null) {
            return STATE;
        }
        images[k] = world.twin();
        return 1;
    }

    int restore(int k) {
        if (out(k, 0, 1)) {
            return BAD;
        }
        if (images[k] == null) {
            return STATE;
        }
        world = images[k].twin();
        past.clear();
        return 1;
    }

    int kind(int toy) {
        return toyless(toy) ? BAD : " bsloe".indexOf(world.sorts.charAt(toy));
    }

    int as(int toy, int kind) {
        if (toyless(toy) || out(kind, 0, 5)) {
            return BAD;
        }
        return asked(toy).is(kind) ? good(toy) : find(3);
    }

    int ask(int toy, int what) {
        if (toyless(toy) || out(what, 0, 1)) {
            return BAD;
        }
        Toy it = asked(toy);
        int answer = what == 0 ? it.size() : it.mark();
        trace = it.begun;
        return answer;
    }

    int trace(int i) {
        return out(i, 0, Math.min(trace.size(), 16) - 1) ? NONE : trace.get(i);
    }

    int count(int what) {
        if (out(what, 0, 9)) {
            return BAD;
        }
        World w = world == null ? new World() : world;
        int there = 0;
        for (int[] row : rows) {
            there += row == null ? 0 : 1;
        }
        int[] answers = {there, w.sorts.length(), w.plays, w.low, w.high, w.every, w.bits(w.won),
            w.bits(w.broken), past.size(), tape.length()};
        return answers[what];
    }

    int status() {
        return finding;
    }

    private Toy asked(int toy) {
        Toy[] kinds = {null, new Bear(), new Slick(), new Loop(), new Ball(), new Egg()};
        Toy it = kinds[kind(toy)];
        it.number = toy;
        it.weight = world.weights[toy];
        it.where = world.where(toy);
        return it;
    }

    /** The kinds as classes: the language itself chooses the bodies. */
    private static class Toy {
        int number, weight, where;
        final List<Integer> begun = new ArrayList<>();

        boolean is(int kind) {
            Class<?>[] kinds = {Toy.class, Bear.class, Slick.class, Loop.class, Ball.class, Egg.class};
            return kinds[kind].isInstance(this);
        }

        int size() {
            begun.add(10);
            return weight;
        }

        int mark() {
            begun.add(20);
            return number;
        }
    }

    private static class Bear extends Toy {
        @Override int size() {
            begun.add(11);
            return super.size() + mark();
        }

        @Override int mark() {
            begun.add(21);
            return super.mark() + where;
        }
    }

    private static final class Slick extends Bear {
        @Override int size() {
            begun.add(12);
            return 0 - super.size();
        }

        @Override int mark() {
            begun.add(24);
            return super.mark() * 2;
        }
    }

    private static final class Loop extends Bear {
        @Override int mark() {
            begun.add(22);
            return super.mark() - 1000;
        }
    }

    private static class Ball extends Toy {
        @Override int size() {
            begun.add(13);
            return super.size() - 100;
        }

        @Override int mark() {
            begun.add(23);
            return super.mark() - size();
        }
    }

    private static final class Egg extends Ball {
        @Override int size() {
            begun.add(14);
            return super.size() * 2;
        }
    }
}
