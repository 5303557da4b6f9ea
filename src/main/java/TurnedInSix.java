/**
 * Turned in six seconds: turns and rows of turns over six pieces, hands that take time for them, ways
 * that solve by steps, five tries, films and an image. The words of the comments (MOVE, ROW, DONE, ..)
 * are those of the document.
 */
public final class TurnedInSix {
    private static final int PLACES = 6;
    private static final int ORDERS = 720;
    private static final int SOLVED = 0;

    private static final int MOST_TAPE = 16;
    private static final int MOST_FED = 8;
    private static final int MOST_TURNS = 6;
    private static final int MOST_ROWS = 10;
    private static final int MOST_ROW_MOVES = 8;
    private static final int MOST_FOUND = 5;
    private static final int MOST_STEPS = 4;
    private static final int MOST_TIMES = 5;
    private static final int MOST_FILM = 8;

    private static final int MOST_TENTHS = 99;
    private static final int LEAST_AFTER = -9;
    private static final int MOST_TIME = 9999;
    private static final int MOST_FILM_BYTE = 127;
    private static final int LEAST_PACE = 50;
    private static final int MOST_PACE = 300;
    private static final int PACE_STEP = 10;

    /** What of time(): TIME and BACK; what of locks(): LOCKS and LOCK. */
    private static final int TIME = 0;
    private static final int BACK = 1;
    private static final int LOCKS = 0;
    private static final int LOCK = 1;

    private static final int KIND_TURN = 0;
    private static final int KIND_FLOWING = 1;
    private static final int KIND_REGRIPPED = 2;
    private static final int KIND_UNDONE = 3;

    private static final int NONE = -9;
    private static final int FILM_TOO_LONG = 99;
    private static final int FAULT_BASE = -20;
    private static final int WITHOUT_SIGN = 0x7fffffff;
    /** More than the dearest row takes: of each MOVE TIME, BACK and AFTER at their greatest. */
    private static final int ABOVE_ALL_TIMES = 3 * MOST_TENTHS * MOST_FOUND + 1;
    private static final int AFTER_REFUSED = 1000000000;

    private static final int NOBODY = -1;
    private static final int OTHER = -2;
    private static final int STATE = -3;
    private static final int BELOW = -4;
    private static final int ROOM = -6;
    private static final int INSIDE = 0;
    private static final int REFUSAL_NUMBERS = 6;

    private final Tape tape = new Tape();
    private final Orders orders = new Orders();
    private final Turns turns = new Turns(orders);
    private final Rows rows = new Rows(turns, orders);
    private final Hand hand = new Hand();
    private final Finder finder = new Finder(turns, hand);
    private final Way way = new Way(orders, rows, hand);
    private final Try trial = new Try();
    private final Times times = new Times();
    private final Film film = new Film(rows, hand);
    private final Image kept = new Image();
    private final int[] refusals = new int[REFUSAL_NUMBERS + 1];
    /** NOW, told by its number: NOW is only ever one of the 720 ORDERS. */
    private int current = SOLVED;

    public TurnedInSix() {
    }

    // ---- the tape, turns and rows ----

    public int feed(int n, long bytes) {
        int fault = outside(n, 1, MOST_FED);
        if (fault != INSIDE) {
            return refuse(fault);
        }
        if (tape.length + n > MOST_TAPE) {
            return refuse(ROOM);
        }
        tape.add(n, bytes);
        return tape.length;
    }

    public int turn() {
        if (turns.held >= MOST_TURNS) {
            return refuse(ROOM);
        }
        int fault = tape.readTurn(turns.goals[2 * turns.held]);
        tape.length = 0;
        if (fault != NONE) {
            return FAULT_BASE - fault;
        }
        hand.forget(turns.held);
        turns.takeRead();
        return turns.held - 1;
    }

    public int row() {
        if (rows.held >= MOST_ROWS) {
            return refuse(ROOM);
        }
        int fault = tape.readRow(rows.moves[rows.held], turns.held);
        tape.length = 0;
        if (fault != NONE) {
            return FAULT_BASE - fault;
        }
        rows.takeRead(tape.movesRead);
        return rows.held - 1;
    }

    public int goes(int move, int place) {
        if (!turns.hasMove(move) || !isPlace(place)) {
            return refuse(NOBODY);
        }
        return turns.goals[move][place];
    }

    public int rowOf(int row, int i) {
        if (!rows.has(row)) {
            return refuse(NOBODY);
        }
        if (i == -1) {
            return rows.lengths[row];
        }
        return rows.hasMove(row, i) ? rows.moves[row][i] : NONE;
    }

    public int does(int row, int place) {
        if (!rows.has(row) || !isPlace(place)) {
            return refuse(NOBODY);
        }
        return rows.goal(row, place);
    }

    public int order(int row) {
        if (!rows.has(row)) {
            return refuse(NOBODY);
        }
        int at = rows.ends[row][SOLVED];
        int often = 1;
        while (at != SOLVED && often < ORDERS) {
            at = rows.ends[row][at];
            often++;
        }
        return often;
    }

    public int keeps(int row) {
        if (!rows.has(row)) {
            return refuse(NOBODY);
        }
        // A PIECE stays just where a ROW made from SOLVED leaves it at its own.
        return orders.own[rows.ends[row][SOLVED]];
    }

    // ---- now ----

    public int now(int place) {
        if (!isPlace(place)) {
            return refuse(NOBODY);
        }
        return orders.piece(current, place);
    }

    public int make(int move) {
        if (!turns.hasMove(move)) {
            return refuse(NOBODY);
        }
        current = turns.moved[move][current];
        return solvedNow();
    }

    public int makeRow(int row) {
        if (!rows.has(row)) {
            return refuse(NOBODY);
        }
        current = rows.ends[row][current];
        return solvedNow();
    }

    public int put(int order) {
        int fault = outside(order, 0, ORDERS - 1);
        if (fault != INSIDE) {
            return refuse(fault);
        }
        current = order;
        return solvedNow();
    }

    // ---- the hand ----

    public int time(int turn, int what, int v) {
        if (!turns.has(turn)) {
            return refuse(NOBODY);
        }
        if (what != TIME && what != BACK) {
            return refuse(OTHER);
        }
        int fault = outside(v, what == TIME ? 1 : 0, MOST_TENTHS);
        if (fault != INSIDE) {
            return refuse(fault);
        }
        return exchange(hand.tenths[what], turn, v);
    }

    public int after(int one, int other, int v) {
        if (!turns.has(one) || !turns.has(other)) {
            return AFTER_REFUSED - refuse(NOBODY);
        }
        int fault = outside(v, LEAST_AFTER, MOST_TENTHS);
        if (fault != INSIDE) {
            return AFTER_REFUSED - refuse(fault);
        }
        return exchange(hand.behind[one], other, v);
    }

    public int locks(int what, int v) {
        if (what != LOCKS && what != LOCK) {
            return refuse(OTHER);
        }
        int fault = outside(v, 0, what == LOCKS ? 100 : MOST_TENTHS);
        if (fault != INSIDE) {
            return refuse(fault);
        }
        return exchange(hand.locking, what, v);
    }

    public int kind(int row, int i) {
        if (!rows.has(row)) {
            return refuse(NOBODY);
        }
        return rows.hasMove(row, i) ? hand.kindOf(rows.moves[row][i], rows.ahead(row, i)) : NONE;
    }

    public int seconds(int row) {
        if (!rows.has(row)) {
            return refuse(NOBODY);
        }
        return hand.rowTime(rows, row);
    }

    public int mean(int row) {
        if (!rows.has(row)) {
            return refuse(NOBODY);
        }
        return 100 * hand.rowTime(rows, row) + rows.lengths[row] * hand.locking[LOCKS] * hand.locking[LOCK];
    }

    public int drawn(int row, int z) {
        if (!rows.has(row)) {
            return refuse(NOBODY);
        }
        return hand.rowTime(rows, row) + hand.locksDrawn(rows.lengths[row], z) * hand.locking[LOCK];
    }

    // ---- rows that do the same, fewest turns ----

    public int better(int row, int n) {
        if (!rows.has(row)) {
            return refuse(NOBODY);
        }
        int fault = outside(n, 1, MOST_FOUND);
        if (fault != INSIDE) {
            return refuse(fault);
        }
        int least = finder.leastTime(rows.solvedFrom(row), n);
        return least == NONE ? refuse(STATE) : least;
    }

    public int found(int i) {
        if (i == -1) {
            return finder.foundLength;
        }
        return i >= 0 && i < finder.foundLength ? finder.foundMoves[i] : NONE;
    }

    public int fewest() {
        return turns.away[current];
    }

    public int first() {
        return turns.firstTowardsSolved(current);
    }

    // ---- ways and eyes ----

    public int step(int places, int rows) {
        if (places < 0 || places >= 1 << PLACES || rows < 0 || rows >= 1 << MOST_ROWS) {
            return refuse(NOBODY);
        }
        if (way.held >= MOST_STEPS) {
            return refuse(ROOM);
        }
        way.add(places, rows);
        return way.held - 1;
    }

    public int tried() {
        way.tryFrom(current, trial);
        return trial.stuckAt;
    }

    public int triedRow(int step) {
        if (!way.has(step)) {
            return refuse(NOBODY);
        }
        way.tryFrom(current, trial);
        return trial.rowMade[step];
    }

    public int solves() {
        return way.solved(trial);
    }

    public int lacks() {
        for (int order = 0; order < ORDERS; order++) {
            way.tryFrom(order, trial);
            if (!trial.solved()) {
                return order;
            }
        }
        return NONE;
    }

    public int luck(int step, int part) {
        if (!way.has(step)) {
            return refuse(NOBODY);
        }
        if (part != 0 && part != 1) {
            return refuse(OTHER);
        }
        int come = 0;
        int lucky = 0;
        for (int order = 0; order < ORDERS; order++) {
            way.tryFrom(order, trial);
            if (trial.comesTo(step)) {
                come++;
                lucky += trial.needsNone(step) ? 1 : 0;
            }
        }
        return leastTerms(lucky, come, part);
    }

    public int see(int step, int v) {
        if (!way.has(step)) {
            return refuse(NOBODY);
        }
        int fault = outside(v, 0, MOST_TENTHS);
        if (fault != INSIDE) {
            return refuse(fault);
        }
        return exchange(way.looks, step, v);
    }

    public int sum(int pace) {
        int fault = outside(pace, LEAST_PACE, MOST_PACE);
        if (fault != INSIDE) {
            return refuse(fault);
        }
        way.tryFrom(current, trial);
        return way.sumOf(trial, pace);
    }

    public int bestPace() {
        way.tryFrom(current, trial);
        if (trial.stuckAt != NONE) {
            return NONE;
        }
        int best = LEAST_PACE;
        int least = way.sumOf(trial, best);
        for (int pace = LEAST_PACE + PACE_STEP; pace <= MOST_PACE; pace += PACE_STEP) {
            int all = way.sumOf(trial, pace);
            if (all <= least) {
                least = all;
                best = pace;
            }
        }
        return best;
    }

    public int learn(int step) {
        if (!way.has(step)) {
            return refuse(NOBODY);
        }
        int own = way.rowSets[step];
        int most = way.solved(trial);
        int best = NONE;
        for (int row = 0; row < rows.held; row++) {
            if ((own >> row & 1) == 0) {
                way.rowSets[step] = own | 1 << row;
                int solved = way.solved(trial);
                if (solved > most) {
                    most = solved;
                    best = row;
                }
            }
        }
        way.rowSets[step] = own;
        return best;
    }

    // ---- five tries, films ----

    public int five(int v) {
        int fault = outside(v, 1, MOST_TIME);
        if (fault != INSIDE) {
            return refuse(fault);
        }
        if (times.held >= MOST_TIMES) {
            return refuse(ROOM);
        }
        times.add(v);
        return times.held;
    }

    public int middle(int part) {
        if (part != 0 && part != 1) {
            return refuse(OTHER);
        }
        if (times.held != MOST_TIMES) {
            return refuse(STATE);
        }
        int three = times.middleThree();
        if (part == 1) {
            times.held = 0;
        }
        return leastTerms(three, 3, part);
    }

    public int need(int most) {
        int fault = outside(most, 1, MOST_TIME);
        if (fault != INSIDE) {
            return refuse(fault);
        }
        if (times.held != MOST_TIMES - 1) {
            return refuse(STATE);
        }
        return times.greatestFifth(most);
    }

    public int film(int v) {
        int fault = outside(v, 0, MOST_FILM_BYTE);
        if (fault != INSIDE) {
            return refuse(fault);
        }
        if (film.length >= MOST_FILM) {
            return refuse(ROOM);
        }
        film.add(v);
        return film.length;
    }

    public int held(int row, int more) {
        if (!rows.has(row)) {
            return refuse(NOBODY);
        }
        int fault = outside(more, 0, MOST_TENTHS);
        if (fault != INSIDE) {
            return refuse(fault);
        }
        return film.firstAbove(row, more);
    }

    public int heldUp(int row) {
        if (!rows.has(row)) {
            return refuse(NOBODY);
        }
        int all = film.allAbove(row);
        film.length = 0;
        return all;
    }

    // ---- the image ----

    public int image() {
        kept.taken = true;
        kept.turns = turns.held;
        kept.rows = rows.held;
        kept.steps = way.held;
        kept.now = current;
        kept.hand.copy(hand);
        System.arraycopy(way.looks, 0, kept.looks, 0, MOST_STEPS);
        return rows.held;
    }

    public int on() {
        if (!kept.taken) {
            return refuse(STATE);
        }
        turns.goBackTo(kept.turns);
        rows.held = kept.rows;
        way.held = kept.steps;
        current = kept.now;
        hand.copy(kept.hand);
        System.arraycopy(kept.looks, 0, way.looks, 0, MOST_STEPS);
        return rows.held;
    }

    public int count(int what) {
        switch (what) {
            case 0:
                return turns.held;
            case 1:
                return rows.held;
            case 2:
                return way.held;
            case 3:
                return Integer.bitCount(orders.own[current]);
            case 4:
                return times.held;
            case 5:
                return film.length;
            case 6:
                return tape.length;
            default:
                return what > 10 && what <= 10 + REFUSAL_NUMBERS ? refusals[what - 10] : NONE;
        }
    }

    // ---- what the methods above share ----

    private int refuse(int number) {
        int index = -number;
        if (index > 0 && index <= REFUSAL_NUMBERS) {
            refusals[index]++;
        }
        return number;
    }

    private int solvedNow() {
        return current == SOLVED ? 1 : 0;
    }

    private static boolean isPlace(int place) {
        return place >= 0 && place < PLACES;
    }

    private static int outside(int v, int least, int greatest) {
        if (v < least) {
            return BELOW;
        }
        return v > greatest ? ROOM : INSIDE;
    }

    private static int exchange(int[] values, int index, int v) {
        int was = values[index];
        values[index] = v;
        return was;
    }

    /** Of above by below in least terms: above the line (part 0) or below it (1); 0 by 1, if below is 0. */
    private static int leastTerms(int above, int below, int part) {
        int divisor = below;
        while (divisor > 1 && (above % divisor != 0 || below % divisor != 0)) {
            divisor--;
        }
        if (divisor < 1) {
            return part;
        }
        return part == 0 ? above / divisor : below / divisor;
    }

    /** THE TAPE and how TURNS and ROWS are read from it. */
    private static final class Tape {
        final int[] bytes = new int[MOST_TAPE];
        int length;
        /** How many MOVES the last readRow() read. */
        int movesRead;

        void add(int n, long fed) {
            for (int i = 0; i < n && length < MOST_TAPE; i++) {
                bytes[length] = (int) (fed >> 8 * i & 255);
                length++;
            }
        }

        /** The FAULT, or NONE: then goals tells where the PIECE at each PLACE goes. */
        int readTurn(int[] goals) {
            for (int place = 0; place < PLACES; place++) {
                goals[place] = place;
            }
            int used = 0;
            int letters = 0;
            int opening = 0;
            int last = 0;
            boolean inRing = false;
            for (int i = 0; i < length; i++) {
                int letter = bytes[i] - 'a';
                if (!inRing) {
                    if (bytes[i] != '(') {
                        return i;
                    }
                    inRing = true;
                    letters = 0;
                } else if (bytes[i] == ')') {
                    if (letters < 2) {
                        return i;
                    }
                    goals[last] = opening;
                    inRing = false;
                } else {
                    if (!isPlace(letter) || (used >> letter & 1) == 1) {
                        return i;
                    }
                    if (letters == 0) {
                        opening = letter;
                    } else {
                        goals[last] = letter;
                    }
                    used |= 1 << letter;
                    last = letter;
                    letters++;
                }
            }
            return inRing || length == 0 ? length : NONE;
        }

        /** The FAULT, or NONE: then the first movesRead of moves are those of the ROW. */
        int readRow(int[] moves, int turnsHeld) {
            movesRead = 0;
            for (int i = 0; i < length; i++) {
                int digit = bytes[i] - '0';
                if (digit >= 0 && digit < turnsHeld && movesRead < MOST_ROW_MOVES) {
                    moves[movesRead] = 2 * digit;
                    movesRead++;
                } else if (bytes[i] == '\'' && movesRead > 0 && (moves[movesRead - 1] & 1) == 0) {
                    moves[movesRead - 1]++;
                } else {
                    return i;
                }
            }
            return movesRead == 0 ? length : NONE;
        }
    }

    /** All 720 ways PIECES can be, by their numbers. */
    private static final class Orders {
        /** The PIECES at PLACES 0 .. 5 of order 0, then those of order 1, .. */
        final int[] pieces = new int[ORDERS * PLACES];
        /** Of each order the PLACES whose PIECE is at its own (bits). */
        final int[] own = new int[ORDERS];
        private final int[] arranged = new int[PLACES];

        Orders() {
            for (int order = 0; order < ORDERS; order++) {
                layOut(order);
            }
        }

        private void layOut(int order) {
            int left = (1 << PLACES) - 1;
            int rest = order;
            int ways = ORDERS;
            for (int place = 0; place < PLACES; place++) {
                ways = Math.max(1, ways / (PLACES - place));
                int piece = nthOf(left, rest / ways);
                rest %= ways;
                left &= ~(1 << piece);
                pieces[order * PLACES + place] = piece;
                if (piece == place) {
                    own[order] |= 1 << place;
                }
            }
        }

        /** The piece of a set (bits) that has n smaller ones in it. */
        private static int nthOf(int set, int n) {
            int smaller = 0;
            for (int piece = 0; piece < PLACES; piece++) {
                if ((set >> piece & 1) == 1) {
                    if (smaller == n) {
                        return piece;
                    }
                    smaller++;
                }
            }
            return 0;
        }

        int piece(int order, int place) {
            return pieces[order * PLACES + place];
        }

        int numberOf(int[] piecesAt) {
            int left = (1 << PLACES) - 1;
            int number = 0;
            for (int place = 0; place < PLACES; place++) {
                int piece = piecesAt[place];
                number = number * (PLACES - place) + Integer.bitCount(left & (1 << piece) - 1);
                left &= ~(1 << piece);
            }
            return number;
        }

        int moved(int order, int[] goals) {
            for (int place = 0; place < PLACES; place++) {
                arranged[goals[place]] = piece(order, place);
            }
            return numberOf(arranged);
        }
    }

    /** The TURNS; all is kept by MOVES: 2 times the TURN, 1 more if BACK. */
    private static final class Turns {
        int held;
        final int[][] goals = new int[2 * MOST_TURNS][PLACES];
        /** Of each MOVE to which order it leads from each order. */
        final int[][] moved = new int[2 * MOST_TURNS][ORDERS];
        /** Of each order FEWEST, or NONE. */
        final int[] away = new int[ORDERS];
        private final int[] reached = new int[ORDERS];
        private final Orders orders;

        Turns(Orders allOrders) {
            orders = allOrders;
            measure();
        }

        boolean has(int turn) {
            return turn >= 0 && turn < held;
        }

        boolean hasMove(int move) {
            return move >= 0 && move < 2 * held;
        }

        /** The goals read behind the last TURN become a TURN. */
        void takeRead() {
            int forth = 2 * held;
            int back = forth + 1;
            for (int place = 0; place < PLACES; place++) {
                goals[back][goals[forth][place]] = place;
            }
            for (int order = 0; order < ORDERS; order++) {
                int next = orders.moved(order, goals[forth]);
                moved[forth][order] = next;
                moved[back][next] = order;
            }
            held++;
            measure();
        }

        void goBackTo(int heldThen) {
            held = heldThen;
            measure();
        }

        /** Each MOVE can be done the other way, so what SOLVED leads to leads to SOLVED in as many. */
        private void measure() {
            for (int order = 0; order < ORDERS; order++) {
                away[order] = NONE;
            }
            away[SOLVED] = 0;
            reached[0] = SOLVED;
            int known = 1;
            for (int i = 0; i < known && i < ORDERS; i++) {
                int from = reached[i];
                for (int move = 0; move < 2 * held; move++) {
                    int next = moved[move][from];
                    if (away[next] == NONE && known < ORDERS) {
                        away[next] = away[from] + 1;
                        reached[known] = next;
                        known++;
                    }
                }
            }
        }

        int firstTowardsSolved(int order) {
            for (int move = 0; move < 2 * held && away[order] > 0; move++) {
                if (away[moved[move][order]] == away[order] - 1) {
                    return move;
                }
            }
            return NONE;
        }
    }

    /** The ROWS. */
    private static final class Rows {
        int held;
        final int[] lengths = new int[MOST_ROWS];
        final int[][] moves = new int[MOST_ROWS][MOST_ROW_MOVES];
        /** Of each ROW to which order it leads from each order. */
        final int[][] ends = new int[MOST_ROWS][ORDERS];
        private final int[] wanted = new int[PLACES];
        private final Turns turns;
        private final Orders orders;

        Rows(Turns allTurns, Orders allOrders) {
            turns = allTurns;
            orders = allOrders;
        }

        boolean has(int row) {
            return row >= 0 && row < held;
        }

        boolean hasMove(int row, int i) {
            return i >= 0 && i < lengths[row];
        }

        /** The MOVES read behind the last ROW become a ROW. */
        void takeRead(int length) {
            lengths[held] = length;
            for (int order = 0; order < ORDERS; order++) {
                int at = order;
                for (int i = 0; i < length; i++) {
                    at = turns.moved[moves[held][i]][at];
                }
                ends[held][order] = at;
            }
            held++;
        }

        int ahead(int row, int i) {
            return i > 0 ? moves[row][i - 1] : NONE;
        }

        int goal(int row, int place) {
            int at = place;
            for (int i = 0; i < lengths[row]; i++) {
                at = turns.goals[moves[row][i]][at];
            }
            return at;
        }

        /** The order that a ROW, and so each that does the same and no other, makes SOLVED. */
        int solvedFrom(int row) {
            for (int place = 0; place < PLACES; place++) {
                wanted[place] = goal(row, place);
            }
            return orders.numberOf(wanted);
        }
    }

    /** The HAND, LOCKS and LOCK. */
    private static final class Hand {
        final int[][] tenths = new int[2][MOST_TURNS];
        final int[][] behind = new int[MOST_TURNS][MOST_TURNS];
        final int[] locking = new int[2];

        Hand() {
            for (int turn = 0; turn < MOST_TURNS; turn++) {
                forget(turn);
            }
            locking[LOCK] = 20;
        }

        /** A TURN that comes has what each has at first, whatever one of its number had before on(). */
        void forget(int turn) {
            tenths[TIME][turn] = 10;
            tenths[BACK][turn] = 0;
            for (int other = 0; other < MOST_TURNS; other++) {
                behind[turn][other] = 0;
                behind[other][turn] = 0;
            }
        }

        void copy(Hand from) {
            System.arraycopy(from.tenths[TIME], 0, tenths[TIME], 0, MOST_TURNS);
            System.arraycopy(from.tenths[BACK], 0, tenths[BACK], 0, MOST_TURNS);
            for (int turn = 0; turn < MOST_TURNS; turn++) {
                System.arraycopy(from.behind[turn], 0, behind[turn], 0, MOST_TURNS);
            }
            System.arraycopy(from.locking, 0, locking, 0, 2);
        }

        /** What a MOVE takes behind the one ahead of it (NONE: it is the first). */
        int takes(int move, int ahead) {
            int all = tenths[TIME][move >> 1];
            if ((move & 1) == 1) {
                all += tenths[BACK][move >> 1];
            }
            if (ahead != NONE) {
                all += behind[ahead >> 1][move >> 1];
            }
            return Math.max(1, all);
        }

        int rowTime(Rows rows, int row) {
            int all = 0;
            for (int i = 0; i < rows.lengths[row]; i++) {
                all += takes(rows.moves[row][i], rows.ahead(row, i));
            }
            return all;
        }

        int kindOf(int move, int ahead) {
            if (ahead == NONE) {
                return KIND_TURN;
            }
            if (ahead == (move ^ 1)) {
                return KIND_UNDONE;
            }
            int more = behind[ahead >> 1][move >> 1];
            if (more < 0) {
                return KIND_FLOWING;
            }
            return more > 0 ? KIND_REGRIPPED : KIND_TURN;
        }

        int locksDrawn(int moves, int seed) {
            int z = seed;
            int locked = 0;
            for (int i = 0; i < moves; i++) {
                z = z * 1664525 + 1013904223;
                if ((z & WITHOUT_SIGN) / 256 % 100 < locking[LOCKS]) {
                    locked++;
                }
            }
            return locked;
        }
    }

    /** The search of BETTER, and FOUND. */
    private static final class Finder {
        final int[] foundMoves = new int[MOST_FOUND];
        int foundLength;
        private final int[] trail = new int[MOST_FOUND];
        private final int[] bestMoves = new int[MOST_FOUND];
        private int bestLength;
        private int bestTime;
        private int most;
        private final Turns turns;
        private final Hand hand;

        Finder(Turns allTurns, Hand theHand) {
            turns = allTurns;
            hand = theHand;
        }

        /** The least SECONDS of 1 .. n MOVES from an order to SOLVED: they become FOUND; or NONE. */
        int leastTime(int from, int n) {
            most = Math.min(n, MOST_FOUND);
            bestLength = 0;
            bestTime = ABOVE_ALL_TIMES;
            search(this, 0, from, 0);
            if (bestLength == 0) {
                return NONE;
            }
            foundLength = bestLength;
            System.arraycopy(bestMoves, 0, foundMoves, 0, bestLength);
            return bestTime;
        }

        /** Goes through the rows in the order of their MOVES, so of equal ones the first stays. */
        private static void search(Finder finder, int depth, int order, int taken) {
            if (depth > 0 && order == SOLVED) {
                finder.look(depth, taken);
            }
            // A MOVE more takes 1 at least: behind as much as the best no row can be better.
            if (depth >= finder.most || taken >= finder.bestTime) {
                return;
            }
            for (int move = 0; move < 2 * finder.turns.held; move++) {
                int next = finder.turns.moved[move][order];
                if (finder.turns.away[next] < finder.most - depth) {
                    finder.trail[depth] = move;
                    int ahead = depth > 0 ? finder.trail[depth - 1] : NONE;
                    search(finder, depth + 1, next, taken + finder.hand.takes(move, ahead));
                }
            }
        }

        private void look(int length, int taken) {
            if (taken < bestTime || taken == bestTime && length < bestLength) {
                bestTime = taken;
                bestLength = length;
                System.arraycopy(trail, 0, bestMoves, 0, length);
            }
        }
    }

    /** A TRY: which ROW each STEP made, where it is STUCK, where it ends. */
    private static final class Try {
        final int[] rowMade = new int[MOST_STEPS];
        int stuckAt;
        int end;

        void begin() {
            stuckAt = NONE;
            for (int step = 0; step < MOST_STEPS; step++) {
                rowMade[step] = NONE;
            }
        }

        boolean solved() {
            return stuckAt == NONE && end == SOLVED;
        }

        boolean comesTo(int step) {
            return stuckAt == NONE || stuckAt >= step;
        }

        boolean needsNone(int step) {
            return stuckAt != step && rowMade[step] == NONE;
        }
    }

    /** The WAY: its STEPS, and the EYES that SEE them. */
    private static final class Way {
        int held;
        final int[] placeSets = new int[MOST_STEPS];
        final int[] rowSets = new int[MOST_STEPS];
        final int[] looks = new int[MOST_STEPS];
        private final Orders orders;
        private final Rows rows;
        private final Hand hand;

        Way(Orders allOrders, Rows allRows, Hand theHand) {
            orders = allOrders;
            rows = allRows;
            hand = theHand;
        }

        boolean has(int step) {
            return step >= 0 && step < held;
        }

        void add(int places, int rowSet) {
            placeSets[held] = places;
            rowSets[held] = rowSet;
            looks[held] = 0;
            held++;
        }

        void tryFrom(int from, Try trial) {
            trial.begin();
            int order = from;
            int due = 0;
            for (int step = 0; step < held && trial.stuckAt == NONE; step++) {
                due |= placeSets[step];
                if ((orders.own[order] & due) != due) {
                    int row = leastRow(rowSets[step], order, due);
                    if (row == NONE) {
                        trial.stuckAt = step;
                    } else {
                        trial.rowMade[step] = row;
                        order = rows.ends[row][order];
                    }
                }
            }
            trial.end = order;
        }

        private int leastRow(int rowSet, int order, int due) {
            for (int row = 0; row < rows.held; row++) {
                if ((rowSet >> row & 1) == 1 && (orders.own[rows.ends[row][order]] & due) == due) {
                    return row;
                }
            }
            return NONE;
        }

        int solved(Try trial) {
            int all = 0;
            for (int order = 0; order < ORDERS; order++) {
                tryFrom(order, trial);
                if (trial.solved()) {
                    all++;
                }
            }
            return all;
        }

        int sumOf(Try trial, int pace) {
            if (trial.stuckAt != NONE) {
                return NONE;
            }
            int all = 0;
            int ahead = 0;
            for (int step = 0; step < held; step++) {
                if (step > 0) {
                    all += Math.max(0, looks[step] - ahead);
                }
                int row = trial.rowMade[step];
                ahead = row == NONE ? 0 : hand.rowTime(rows, row) * pace / 100;
                all += ahead;
            }
            return all;
        }
    }

    /** The times of FIVE, kept from the least to the greatest: none asks in which order they came. */
    private static final class Times {
        int held;
        private final int[] sorted = new int[MOST_TIMES];

        void add(int v) {
            int at = held;
            while (at > 0 && sorted[at - 1] > v) {
                sorted[at] = sorted[at - 1];
                at--;
            }
            sorted[at] = v;
            held++;
        }

        int middleThree() {
            return sorted[1] + sorted[2] + sorted[3];
        }

        /** Of four the two middle ones always count; the fifth counts as it is between the other two. */
        int greatestFifth(int most) {
            int left = 3 * most - sorted[1] - sorted[2];
            if (left >= sorted[3]) {
                return MOST_TIME;
            }
            return left >= sorted[0] ? left : NONE;
        }
    }

    /** The FILM. */
    private static final class Film {
        int length;
        private final int[] bytes = new int[MOST_FILM];
        private final Rows rows;
        private final Hand hand;

        Film(Rows allRows, Hand theHand) {
            rows = allRows;
            hand = theHand;
        }

        void add(int v) {
            bytes[length] = v;
            length++;
        }

        int firstAbove(int row, int more) {
            int moves = rows.lengths[row];
            for (int i = 0; i < length && i < moves; i++) {
                if (bytes[i] > hand.takes(rows.moves[row][i], rows.ahead(row, i)) + more) {
                    return i;
                }
            }
            if (length < moves) {
                return length;
            }
            return length > moves ? FILM_TOO_LONG : NONE;
        }

        int allAbove(int row) {
            int all = 0;
            for (int i = 0; i < length; i++) {
                int due = rows.hasMove(row, i) ? hand.takes(rows.moves[row][i], rows.ahead(row, i)) : 0;
                all += Math.max(0, bytes[i] - due);
            }
            return all;
        }
    }

    /**
     * THE IMAGE. Of TURNS, ROWS and STEPS it keeps only how many there were: more can only come behind
     * them, and on() goes back to them, so those that there were then never change.
     */
    private static final class Image {
        boolean taken;
        int turns;
        int rows;
        int steps;
        int now;
        final Hand hand = new Hand();
        final int[] looks = new int[MOST_STEPS];
    }
}
