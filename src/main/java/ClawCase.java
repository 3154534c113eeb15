import java.util.Arrays;

/** A claw in a glass case; what each call does and answers stands in the document, promise by promise. */
public final class ClawCase {
    public static final int NONE = -1000000, BAD = -1000001, STATE = -1000002, FULL = -1000003;

    private static final int FINDINGS = -1000010;
    private static final int FOUND_NULL = 1, FOUND_PLACE = 2, FOUND_KIND = 3, FOUND_SIZE = 4, FOUND_STORE = 5;
    private static final int FAULTS = -1000100;

    private static final int ROWS = 8, LANES = 3, ITEMS_MOST = 40;
    private static final int TAPE_MOST = 70, TOYS_MOST = 7, COLUMNS = 5, GRIP_MOST = 9, WEIGHT_MOST = 9;
    private static final int PLAYS_MOST = 9999, ACTS_MOST = 24, TRACE_MOST = 16, IMAGES = 2;
    private static final int GRIPS_MOST = 60, SEARCH_MOST = 4, SHARED_MOST = 999, ROUND_MOST = 12;
    private static final int CHANCE_MOST = 8, TENTHS = 10, DRAWS_MOST = 60, SEED_MOST = 999999;

    private static final int WON = 0, BROKEN = 9;
    private static final int BEAR = 1, SLICK = 2, LOOP = 3, BALL = 4, EGG = 5;
    private static final int SORTS = 0, WEIGHTS = 1, LOWS = 2, HIGHS = 3;

    /** Of each KIND the next wider one that it is, too; TOY is the widest. */
    private static final int[] WIDER = {-1, 0, BEAR, BEAR, 0, BALL};

    private final Row[] rows = new Row[ROWS];
    private final Reader reader = new Reader();
    private final Box now = new Box();
    private final Acts acts = new Acts();
    private final Box[] images = new Box[IMAGES];
    private final Foretold foretold = new Foretold();
    private final Asked asked = new Asked();
    private int latestFault = 0;
    private int latestFinding = 0;

    public ClawCase() {
        for (int i = 0; i < ROWS; i++) {
            rows[i] = new Row();
        }
        for (int i = 0; i < IMAGES; i++) {
            images[i] = new Box();
        }
    }

    // ---- rows

    public int row(int row, int lane, int n) {
        if (!isRow(row) || !within(lane, 0, LANES - 1) || n > ITEMS_MOST) {
            return BAD;
        }
        if (n < 0) {
            return found(FOUND_SIZE);
        }
        rows[row].renew(lane, n);
        return fine(n);
    }

    public int set(int row, int i, int v) {
        if (!isRow(row)) {
            return BAD;
        }
        Row it = rows[row];
        if (it.missing) {
            return found(FOUND_NULL);
        }
        if (!it.spans(i, 1)) {
            return found(FOUND_PLACE);
        }
        it.items[i] = it.lowestBits(v);
        return fine(it.items[i]);
    }

    public int copy(int a, int i, int b, int j, int n) {
        if (!isRow(a) || !isRow(b)) {
            return BAD;
        }
        Row from = rows[a];
        Row to = rows[b];
        if (from.missing || to.missing) {
            return found(FOUND_NULL);
        }
        if (from.lane != to.lane) {
            return found(FOUND_STORE);
        }
        if (!from.spans(i, n) || !to.spans(j, n)) {
            return found(FOUND_PLACE);
        }
        System.arraycopy(from.items, i, to.items, j, n);
        return fine(n);
    }

    public int drop(int row) {
        if (!isRow(row)) {
            return BAD;
        }
        if (rows[row].missing) {
            return found(FOUND_NULL);
        }
        rows[row].missing = true;
        return fine(rows[row].size);
    }

    // ---- cases, acts

    public int feed(int letter) {
        if (!within(letter, 0, 255)) {
            return BAD;
        }
        if (reader.bytes >= TAPE_MOST) {
            return FULL;
        }
        return reader.append(letter);
    }

    public int glass() {
        boolean good = reader.readTape();
        if (!good) {
            latestFault = reader.wrong;
            return FAULTS - reader.at;
        }
        now.become(reader.draft);
        acts.forget();
        return now.toys;
    }

    public int fault() {
        return latestFault;
    }

    public int play(int column) {
        if (noCase()) {
            return STATE;
        }
        if (!isColumn(column)) {
            return BAD;
        }
        if (now.plays >= PLAYS_MOST) {
            return FULL;
        }
        return now.playAt(column, now.gripAhead(0), acts.begin());
    }

    public int put(int toy, int column) {
        if (!isToy(toy) || !isColumn(column)) {
            return BAD;
        }
        if (isColumn(now.places[toy])) {
            return STATE;
        }
        acts.begin().keep(now, toy);
        now.lay(toy, column);
        return now.howMany(column);
    }

    public int grip(int which, int v) {
        if (noCase()) {
            return STATE;
        }
        if (!within(which, 0, 1) || !within(v, 0, GRIP_MOST)) {
            return BAD;
        }
        acts.begin().keep(now, NONE);
        int was = which == 0 ? now.low : now.high;
        if (which == 0) {
            now.low = v;
        } else {
            now.high = v;
        }
        return was;
    }

    public int undo() {
        if (acts.kept == 0) {
            return STATE;
        }
        return acts.takeBack(now);
    }

    public int toy(int toy, int what) {
        if (!isToy(toy)) {
            return BAD;
        }
        switch (what) {
            case 0: return now.weights[toy];
            case 1: return now.places[toy];
            case 2: return now.need(toy);
            case 3: return now.above(toy);
            case 4: return now.under[toy];
            default: return BAD;
        }
    }

    public int column(int column, int what) {
        if (noCase()) {
            return STATE;
        }
        if (!isColumn(column)) {
            return BAD;
        }
        switch (what) {
            case 0: return now.howMany(column);
            case 1: return now.uppermost(column);
            case 2: return now.toysAt(column);
            default: return BAD;
        }
    }

    // ---- foretold

    public int gives(int column) {
        if (noCase()) {
            return STATE;
        }
        if (!isColumn(column)) {
            return BAD;
        }
        int toy = now.uppermost(column);
        return toy == NONE ? NONE : now.landing(toy, column, now.gripAhead(0));
    }

    public int grips(int k) {
        if (noCase()) {
            return STATE;
        }
        return within(k, 0, GRIPS_MOST) ? now.gripAhead(k) : BAD;
    }

    public int win(int toy, int k) {
        if (!isToy(toy) || k < -1) {
            return BAD;
        }
        int plays = foretold.fewestPlays(now, toy);
        if (k == -1) {
            return plays;
        }
        return k < plays ? foretold.path[k] : NONE;
    }

    public int haul(int n, int k) {
        if (noCase()) {
            return STATE;
        }
        if (!within(n, 1, SEARCH_MOST) || k < -1) {
            return BAD;
        }
        if (k >= n) {
            return NONE;
        }
        foretold.searchHaul(now, n);
        return k == -1 ? foretold.bestToys : foretold.best[k];
    }

    public int enough(int column) {
        if (noCase()) {
            return STATE;
        }
        if (!isColumn(column)) {
            return BAD;
        }
        int toy = now.uppermost(column);
        // GRIP is 1 less at each COLUMN on the way and must be NEED yet at COLUMN 1
        return toy == NONE ? NONE : now.need(toy) + column - 1;
    }

    public int share(int toy, int n) {
        if (!isToy(toy) || !within(n, 0, SHARED_MOST)) {
            return BAD;
        }
        return now.places[toy] == WON ? now.shareOf(toy, n) : 0;
    }

    public int fits(int toy, int row, int i, int n, int what) {
        if (!isToy(toy) || !isRow(row) || !within(n, 1, ROUND_MOST) || !within(what, SORTS, HIGHS)) {
            return BAD;
        }
        Row told = rows[row];
        if (told.missing) {
            return found(FOUND_NULL);
        }
        if (!told.spans(i, n)) {
            return found(FOUND_PLACE);
        }
        return fine(foretold.fitting(now, toy, told, i, n, what));
    }

    public int chance(int toy, int column, int n, int c, int what) {
        if (!isToy(toy) || !isColumn(column) || !within(n, 0, CHANCE_MOST)) {
            return BAD;
        }
        if (!within(c, 0, TENTHS) || !within(what, 0, 1)) {
            return BAD;
        }
        int ways = foretold.waysToWin(now, toy, column, n, c);
        int all = power(TENTHS, n);
        int common = commonDivisor(ways, all);
        return (what == 0 ? ways : all) / common;
    }

    public int drawn(int n, int seed, int what) {
        if (noCase()) {
            return STATE;
        }
        if (!within(n, 0, DRAWS_MOST) || !within(seed, 1, SEED_MOST) || !within(what, 0, 1)) {
            return BAD;
        }
        int won = foretold.winsByDraws(now, n, seed);
        return what == 0 ? won : foretold.trial.howMany(BROKEN);
    }

    public int image(int k) {
        if (!within(k, 0, IMAGES - 1)) {
            return BAD;
        }
        if (noCase()) {
            return STATE;
        }
        images[k].become(now);
        return 1;
    }

    public int restore(int k) {
        if (!within(k, 0, IMAGES - 1)) {
            return BAD;
        }
        if (images[k].toys == 0) {
            return STATE;
        }
        now.become(images[k]);
        acts.forget();
        return 1;
    }

    // ---- asked

    public int kind(int toy) {
        return isToy(toy) ? now.kinds[toy] : BAD;
    }

    public int as(int toy, int kind) {
        if (!isToy(toy) || !within(kind, 0, EGG)) {
            return BAD;
        }
        return isOfKind(now.kinds[toy], kind) ? fine(toy) : found(FOUND_KIND);
    }

    public int ask(int toy, int what) {
        if (!isToy(toy) || !within(what, 0, 1)) {
            return BAD;
        }
        return asked.answer(now, toy, what == 0 ? Asked.SIZE[now.kinds[toy]] : Asked.MARK[now.kinds[toy]]);
    }

    public int trace(int i) {
        return within(i, 0, asked.begun - 1) ? asked.bodies[i] : NONE;
    }

    public int count(int what) {
        switch (what) {
            case 0: return rowsThere();
            case 1: return now.toys;
            case 2: return now.plays;
            case 3: return now.low;
            case 4: return now.high;
            case 5: return now.every;
            case 6: return now.toysAt(WON);
            case 7: return now.toysAt(BROKEN);
            case 8: return acts.kept;
            case 9: return reader.bytes;
            default: return BAD;
        }
    }

    public int status() {
        return latestFinding;
    }

    // ---- what several calls use

    private boolean noCase() {
        return now.toys == 0;
    }

    private boolean isToy(int toy) {
        return within(toy, 0, now.toys - 1);
    }

    private int rowsThere() {
        int there = 0;
        for (int i = 0; i < ROWS; i++) {
            if (!rows[i].missing) {
                there++;
            }
        }
        return there;
    }

    private int found(int finding) {
        latestFinding = finding;
        return FINDINGS - finding;
    }

    private int fine(int answer) {
        latestFinding = 0;
        return answer;
    }

    private static boolean within(int v, int least, int most) {
        return v >= least && v <= most;
    }

    private static boolean isRow(int row) {
        return within(row, 0, ROWS - 1);
    }

    private static boolean isColumn(int place) {
        return within(place, 1, COLUMNS);
    }

    private static boolean isOfKind(int kind, int wanted) {
        int wider = kind;
        for (int steps = 0; steps < WIDER.length && wider > 0 && wider != wanted; steps++) {
            wider = WIDER[wider];
        }
        return wider == wanted;
    }

    private static int power(int base, int n) {
        int product = 1;
        for (int i = 0; i < n; i++) {
            product *= base;
        }
        return product;
    }

    /** Of 0 and b it is b, so that 0 is told as 0 by 1; never 0, as b is not. */
    private static int commonDivisor(int a, int b) {
        int small = a;
        int large = b;
        // each two rounds halve the larger number at least
        for (int rounds = 0; rounds < 100 && small != 0; rounds++) {
            int rest = large % small;
            large = small;
            small = rest;
        }
        return large == 0 ? 1 : large;
    }

    /** A ROW; while it is missing, its size and items mean nothing. */
    private static final class Row {
        final int[] items = new int[ITEMS_MOST];
        boolean missing = true;
        int lane = 0;
        int size = 0;

        void renew(int newLane, int n) {
            Arrays.fill(items, 0);
            missing = false;
            lane = newLane;
            size = n;
        }

        /** Whether n places from i on are there; told without a sum, that could wrap around. */
        boolean spans(int i, int n) {
            return i >= 0 && within(n, 0, size) && i <= size - n;
        }

        int lowestBits(int v) {
            switch (lane) {
                case 0: return (byte) v;
                case 1: return (short) v;
                default: return v;
            }
        }
    }

    /** The tape, and how a case is read from it. */
    private static final class Reader {
        static final int NUMBER = 256, END = 257, NO_TOKEN = 258;
        static final int NOT_HERE = 1, NOT_AS_TOLD = 2, NO_ROOM = 3;

        final int[] tape = new int[TAPE_MOST];
        final Box draft = new Box();
        int bytes = 0;
        int wrong = 0;
        int at = 0;
        private int token = END;
        private int next = 0;
        private int number = 0;

        int append(int letter) {
            tape[bytes] = letter;
            bytes++;
            return bytes;
        }

        /** Whether the case is now in draft; if not, wrong and at tell the FAULT and its place. */
        boolean readTape() {
            wrong = 0;
            next = 0;
            advance();
            readLaw();
            boolean more = true;
            // the toy that is one too many is a FAULT, which ends the loop
            for (int i = 0; i <= TOYS_MOST && wrong == 0 && more; i++) {
                readToy();
                more = token != END;
            }
            bytes = 0;
            return wrong == 0;
        }

        private void readLaw() {
            expect('g');
            int low = expectNumber(0, GRIP_MOST);
            expect(',');
            int high = expectNumber(0, GRIP_MOST);
            expect(',');
            int every = expectNumber(1, 9);
            expect(';');
            draft.begin(low, high, every);
        }

        private void readToy() {
            int kind = kindOf(token);
            if (wrong == 0 && kind != 0 && draft.toys >= TOYS_MOST) {
                wrong = NO_ROOM;
            }
            expect(kind == 0 ? NO_TOKEN : token);
            int weight = expectNumber(1, WEIGHT_MOST);
            expect(',');
            int column = expectNumber(1, COLUMNS);
            expect(';');
            if (wrong == 0) {
                draft.add(kind, weight, column);
            }
        }

        /** Goes on behind a token that is wanted; NO_TOKEN is never one. Behind a FAULT nothing is read. */
        private void expect(int wanted) {
            if (wrong != 0) {
                return;
            }
            if (token != wanted || wanted == NO_TOKEN) {
                wrong = NOT_HERE;
                return;
            }
            advance();
        }

        private int expectNumber(int least, int most) {
            if (wrong != 0) {
                return 0;
            }
            if (token != NUMBER) {
                wrong = NOT_HERE;
                return 0;
            }
            if (!within(number, least, most)) {
                wrong = NOT_AS_TOLD;
                return 0;
            }
            int value = number;
            advance();
            return value;
        }

        private void advance() {
            at = next;
            if (at >= bytes) {
                token = END;
                return;
            }
            int letter = tape[at];
            if (isFigure(letter)) {
                advanceNumber();
                return;
            }
            boolean known = within(letter, 'a', 'z') || letter == ',' || letter == ';';
            token = known ? letter : NO_TOKEN;
            next = at + 1;
        }

        private void advanceNumber() {
            number = 0;
            for (next = at; next < bytes && next < at + 3 && isFigure(tape[next]); next++) {
                number = number * 10 + tape[next] - '0';
            }
            token = next - at <= 2 ? NUMBER : NO_TOKEN;
        }

        private static boolean isFigure(int letter) {
            return letter >= '0' && letter <= '9';
        }

        private static int kindOf(int letter) {
            switch (letter) {
                case 'b': return BEAR;
                case 's': return SLICK;
                case 'l': return LOOP;
                case 'o': return BALL;
                case 'e': return EGG;
                default: return 0;
            }
        }
    }

    /** A CASE: its law, its toys and where they are; without toys it is none. */
    private static final class Box {
        final int[] kinds = new int[TOYS_MOST];
        final int[] weights = new int[TOYS_MOST];
        final int[] places = new int[TOYS_MOST];
        final int[] under = new int[TOYS_MOST];
        int toys = 0;
        int low = 0;
        int high = 0;
        int every = 0;
        int plays = 0;

        void begin(int newLow, int newHigh, int newEvery) {
            toys = 0;
            plays = 0;
            low = newLow;
            high = newHigh;
            every = newEvery;
        }

        void add(int kind, int weight, int column) {
            kinds[toys] = kind;
            weights[toys] = weight;
            lay(toys, column);
            toys++;
        }

        void become(Box other) {
            System.arraycopy(other.kinds, 0, kinds, 0, TOYS_MOST);
            System.arraycopy(other.weights, 0, weights, 0, TOYS_MOST);
            System.arraycopy(other.places, 0, places, 0, TOYS_MOST);
            System.arraycopy(other.under, 0, under, 0, TOYS_MOST);
            toys = other.toys;
            low = other.low;
            high = other.high;
            every = other.every;
            plays = other.plays;
        }

        /** GRIP of the k-th PLAY from now on. */
        int gripAhead(int k) {
            return every > 0 && (plays + 1 + k) % every == 0 ? high : low;
        }

        int need(int toy) {
            switch (kinds[toy]) {
                case SLICK: return weights[toy] + 2;
                case LOOP: return weights[toy] / 2 + 1;
                default: return weights[toy];
            }
        }

        int howMany(int place) {
            int lie = 0;
            for (int toy = 0; toy < toys; toy++) {
                if (places[toy] == place) {
                    lie++;
                }
            }
            return lie;
        }

        int toysAt(int place) {
            int there = 0;
            for (int toy = 0; toy < toys; toy++) {
                if (places[toy] == place) {
                    there |= 1 << toy;
                }
            }
            return there;
        }

        int uppermost(int column) {
            int top = NONE;
            for (int toy = 0; toy < toys; toy++) {
                if (places[toy] == column && (top == NONE || under[toy] > under[top])) {
                    top = toy;
                }
            }
            return top;
        }

        int above(int toy) {
            return isColumn(places[toy]) ? howMany(places[toy]) - 1 - under[toy] : 0;
        }

        /** A toy that is not there yet comes to a place: on top of a COLUMN, WON or BROKEN. */
        void lay(int toy, int place) {
            under[toy] = isColumn(place) ? howMany(place) : 0;
            places[toy] = place;
        }

        /** A PLAY by a GRIP; what was ahead of it is kept in before. */
        int playAt(int column, int grip, Before before) {
            int toy = uppermost(column);
            before.keep(this, toy);
            plays++;
            if (toy == NONE) {
                return NONE;
            }
            int place = landing(toy, column, grip);
            if (place != column) {
                lay(toy, place);
            }
            return place;
        }

        /** Where the uppermost toy of a COLUMN comes to by a GRIP. */
        int landing(int toy, int column, int grip) {
            int need = need(toy);
            if (grip < need) {
                return isOfKind(kinds[toy], BALL) ? rolling(column) : column;
            }
            int left = grip;
            for (int on = column - 1; on >= 1; on--) {
                left--;
                if (left < need) {
                    return kinds[toy] == EGG && howMany(on) == 0 ? BROKEN : on;
                }
            }
            return WON;
        }

        private int rolling(int column) {
            int room = howMany(column) - 2;
            if (column > 1 && howMany(column - 1) <= room) {
                return column - 1;
            }
            if (column < COLUMNS && howMany(column + 1) <= room) {
                return column + 1;
            }
            return column;
        }

        int wonWeight() {
            int sum = 0;
            for (int toy = 0; toy < toys; toy++) {
                if (places[toy] == WON) {
                    sum += weights[toy];
                }
            }
            return sum;
        }

        int shareOf(int wonToy, int n) {
            int sum = Math.max(1, wonWeight());
            int over = n;
            int ahead = 0;
            for (int toy = 0; toy < toys; toy++) {
                if (places[toy] == WON) {
                    over -= n * weights[toy] / sum;
                    ahead += toy < wonToy ? 1 : 0;
                }
            }
            return n * weights[wonToy] / sum + (ahead < over ? 1 : 0);
        }
    }

    /** What one ACT can change, as it was ahead of it: an ACT moves one toy at most. */
    private static final class Before {
        private int plays = 0;
        private int low = 0;
        private int high = 0;
        private int toy = NONE;
        private int place = 0;
        private int under = 0;

        void keep(Box box, int moved) {
            plays = box.plays;
            low = box.low;
            high = box.high;
            toy = moved;
            if (moved != NONE) {
                place = box.places[moved];
                under = box.under[moved];
            }
        }

        void giveBack(Box box) {
            box.plays = plays;
            box.low = low;
            box.high = high;
            if (toy != NONE) {
                box.places[toy] = place;
                box.under[toy] = under;
            }
        }
    }

    /** The latest ACTS, in a ring, so that the oldest is forgotten by being written over. */
    private static final class Acts {
        private final Before[] ring = new Before[ACTS_MOST];
        private int free = 0;
        int kept = 0;

        Acts() {
            for (int i = 0; i < ACTS_MOST; i++) {
                ring[i] = new Before();
            }
        }

        /** Where an ACT, that comes now, is to keep what was ahead of it. */
        Before begin() {
            Before room = ring[free];
            free = (free + 1) % ACTS_MOST;
            kept = Math.min(kept + 1, ACTS_MOST);
            return room;
        }

        int takeBack(Box box) {
            free = (free + ACTS_MOST - 1) % ACTS_MOST;
            kept--;
            ring[free].giveBack(box);
            return kept;
        }

        void forget() {
            kept = 0;
        }
    }

    /** What is FORETOLD by trying: on a copy of the case, so that nothing changes. */
    private static final class Foretold {
        final Box trial = new Box();
        final int[] path = new int[SEARCH_MOST];
        final int[] best = new int[SEARCH_MOST];
        int bestToys = 0;
        private int bestWeight = 0;
        private final Before[] steps = new Before[CHANCE_MOST];

        Foretold() {
            for (int i = 0; i < CHANCE_MOST; i++) {
                steps[i] = new Before();
            }
        }

        /** How many PLAYS, that then stand in path; NONE. */
        int fewestPlays(Box now, int toy) {
            trial.become(now);
            for (int n = 0; n <= SEARCH_MOST; n++) {
                if (winsWithin(toy, 0, n)) {
                    return n;
                }
            }
            return NONE;
        }

        private boolean winsWithin(int toy, int depth, int n) {
            if (depth >= n) {
                return trial.places[toy] == WON;
            }
            for (int column = 1; column <= COLUMNS; column++) {
                path[depth] = column;
                trial.playAt(column, trial.gripAhead(0), steps[depth]);
                boolean wins = winsWithin(toy, depth + 1, n);
                steps[depth].giveBack(trial);
                if (wins) {
                    return true;
                }
            }
            return false;
        }

        void searchHaul(Box now, int n) {
            trial.become(now);
            bestToys = -1;
            bestWeight = -1;
            haulFrom(0, n);
        }

        private void haulFrom(int depth, int n) {
            if (depth >= n) {
                weighPath(n);
                return;
            }
            for (int column = 1; column <= COLUMNS; column++) {
                path[depth] = column;
                trial.playAt(column, trial.gripAhead(0), steps[depth]);
                haulFrom(depth + 1, n);
                steps[depth].giveBack(trial);
            }
        }

        private void weighPath(int n) {
            int won = trial.howMany(WON);
            int weight = trial.wonWeight();
            if (won > bestToys || won == bestToys && weight > bestWeight) {
                bestToys = won;
                bestWeight = weight;
                System.arraycopy(path, 0, best, 0, n);
            }
        }

        /** The values (bits) of what, each in place of the true one, by which the toy goes as the row tells. */
        int fitting(Box now, int toy, Row told, int i, int n, int what) {
            int least = what == SORTS || what == WEIGHTS ? 1 : 0;
            int most = what == SORTS ? EGG : what == WEIGHTS ? WEIGHT_MOST : GRIP_MOST;
            int fit = 0;
            for (int v = least; v <= most; v++) {
                trial.become(now);
                suppose(toy, what, v);
                if (roundGoes(toy, told, i, n)) {
                    fit |= 1 << v;
                }
            }
            return fit;
        }

        private void suppose(int toy, int what, int v) {
            switch (what) {
                case SORTS: trial.kinds[toy] = v; break;
                case WEIGHTS: trial.weights[toy] = v; break;
                case LOWS: trial.low = v; break;
                default: trial.high = v; break;
            }
        }

        private boolean roundGoes(int toy, Row told, int i, int n) {
            for (int k = 0; k < n; k++) {
                trial.playAt(k % COLUMNS + 1, trial.gripAhead(0), steps[0]);
                if (trial.places[toy] != told.items[i + k]) {
                    return false;
                }
            }
            return true;
        }

        /** Of 10 to the n equal ways, those by which the toy is WON. */
        int waysToWin(Box now, int toy, int column, int n, int c) {
            trial.become(now);
            return waysFrom(toy, column, n, c);
        }

        private int waysFrom(int toy, int column, int left, int c) {
            if (trial.places[toy] == WON) {
                return power(TENTHS, left);
            }
            if (left <= 0) {
                return 0;
            }
            int ways = 0;
            for (int strong = 0; strong <= 1; strong++) {
                int tenths = strong == 1 ? c : TENTHS - c;
                trial.playAt(column, strong == 1 ? trial.high : trial.low, steps[left - 1]);
                ways += tenths * waysFrom(toy, column, left - 1, c);
                steps[left - 1].giveBack(trial);
            }
            return ways;
        }

        /** How often a toy was WON; trial is then as the draws leave the case. */
        int winsByDraws(Box now, int n, int seed) {
            trial.become(now);
            int wins = 0;
            long x = seed;
            for (int k = 0; k < n; k++) {
                x = x * 16807 % 2147483647;
                int toy = (int) (x % Math.max(1, trial.toys));
                if (!isColumn(trial.places[toy])) {
                    trial.lay(toy, (int) (x % COLUMNS) + 1);
                }
                int column = (int) (x / 2 % COLUMNS) + 1;
                if (trial.playAt(column, trial.gripAhead(0), steps[0]) == WON) {
                    wins++;
                }
            }
            return wins;
        }
    }

    /** ASKS of toys, by numbered BODIES that ask one another. */
    private static final class Asked {
        /** The BODY that begins, by the KIND: its own, or that of the nearest KIND that it is, too. */
        static final int[] SIZE = {10, 11, 12, 11, 13, 14};
        static final int[] MARK = {20, 21, 24, 22, 23, 23};
        private static final int DEEPEST = 16;

        final int[] bodies = new int[TRACE_MOST];
        int begun = 0;

        int answer(Box box, int toy, int body) {
            begun = 0;
            return give(box, toy, body, 0);
        }

        private int give(Box box, int toy, int body, int depth) {
            // no KIND's bodies ask in a ring, so this is never so deep
            if (depth >= DEEPEST) {
                return 0;
            }
            if (begun < TRACE_MOST) {
                bodies[begun] = body;
                begun++;
            }
            int deeper = depth + 1;
            int kind = box.kinds[toy];
            switch (body) {
                case 10: return box.weights[toy];
                case 11: return give(box, toy, 10, deeper) + give(box, toy, MARK[kind], deeper);
                case 12: return -give(box, toy, 11, deeper);
                case 13: return give(box, toy, 10, deeper) - 100;
                case 14: return 2 * give(box, toy, 13, deeper);
                case 20: return toy;
                case 21: return give(box, toy, 20, deeper) + box.places[toy];
                case 22: return give(box, toy, 21, deeper) - 1000;
                case 23: return give(box, toy, 20, deeper) - give(box, toy, SIZE[kind], deeper);
                case 24: return 2 * give(box, toy, 21, deeper);
                default: return 0;
            }
        }
    }
}
