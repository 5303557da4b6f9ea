import java.util.ArrayList;
import java.util.Arrays;
import java.util.List;
import java.util.Random;

// Runs of calls on an object and on a second, plain writing of the document, which works on pieces at places alone:
// no tables, no numbers of orders but where the document tells them. Two arguments: the first run and how many.
public final class ModelTest {
    private static final int RUNS = 200;
    private static final int CALLS = 512;
    private static int wrong = 0;

    public static void main(String[] args) {
        int[] answered = new int[43];
        int from = args.length == 2 ? Integer.parseInt(args[0]) : 0;
        int runs = args.length == 2 ? Integer.parseInt(args[1]) : RUNS;
        for (int run = from; run < from + runs && wrong < 20; run++) {
            oneRun(run, answered);
        }
        for (int method = 0; method < answered.length; method++) {
            if (method > 0 && answered[method] == 0) {
                wrong++;
                System.out.println("no run called method " + (method + 1));
            }
        }
        System.out.println(wrong == 0 ? runs + " runs are as due" : wrong + " answers are not as due");
        if (wrong != 0) {
            System.exit(1);
        }
    }

    private static void oneRun(int run, int[] answered) {
        Random random = new Random(run);
        TurnedInSix x = new TurnedInSix();
        Model model = new Model();
        Caller caller = new Caller(random, run % 5);
        StringBuilder told = new StringBuilder();
        for (int call = 0; call < CALLS; call++) {
            caller.choose(model);
            long got = caller.call(x);
            long want = caller.call(model);
            answered[caller.method]++;
            told.append(caller).append(" = ").append(want).append('\n');
            if (got != want) {
                wrong++;
                System.out.println("run " + run + ", call " + call + ": answered " + got + " at the last of\n" + told);
                return;
            }
        }
    }

    /** Chooses calls: mostly such that can be done, sometimes with any arguments. */
    private static final class Caller {
        private static final String[] TURNS = {"(ab)", "(bc)", "(cd)", "(de)", "(ef)", "(abc)", "(cdef)", "(abcdef)",
            "(ab)(cd)(ef)", "(ace)(bdf)", "(fa)", "(be)(cf)", "(abcde)", "(a)", "(ab", "(ab)(bc)", "", "x", "(abcdef)(", "(ag)"};
        private final Random random;
        private final int temper;
        private final List<int[]> fed = new ArrayList<>();
        private int method;
        private int a;
        private int b;
        private int c;
        private long bytes;
        private boolean ending;
        private int endsWith;

        Caller(Random random, int temper) {
            this.random = random;
            this.temper = temper;
        }

        void choose(Model m) {
            if (!fed.isEmpty()) {
                int[] part = fed.remove(0);
                method = 1;
                a = part.length;
                bytes = 0;
                for (int i = part.length - 1; i >= 0; i--) {
                    bytes = bytes << 8 | part[i];
                }
                return;
            }
            if (ending) {
                ending = false;
                method = endsWith;
                return;
            }
            int kind = random.nextInt(100);
            if (kind < 12 && m.turns.size() < 6 || kind < 2) {
                read(TURNS[random.nextInt(m.turns.isEmpty() ? 13 : TURNS.length)], 2);
            } else if (kind < 24 && m.rows.size() < 10 || kind < 4) {
                read(someRow(m), 3);
            } else {
                method = 1 + random.nextInt(42);
                if (temper == 0 && method == 41 || temper == 1 && method == 12) {
                    method = 25;
                }
                arguments(m);
            }
        }

        private void read(String text, int then) {
            for (int from = 0; from < text.length(); from += 8) {
                fed.add(text.substring(from, Math.min(text.length(), from + 8)).chars().toArray());
            }
            ending = true;
            endsWith = then;
            choose(null);
        }

        private String someRow(Model m) {
            StringBuilder text = new StringBuilder();
            int moves = 1 + random.nextInt(random.nextInt(4) == 0 ? 9 : 4);
            for (int i = 0; i < moves; i++) {
                text.append((char) ('0' + random.nextInt(Math.max(1, m.turns.size() + (random.nextInt(20) == 0 ? 1 : 0)))));
                if (random.nextInt(3) == 0) {
                    text.append('\'');
                }
            }
            return text.length() > 16 ? "0" : text.toString();
        }

        private int some(int least, int greatest) {
            int way = random.nextInt(40);
            if (way == 0) {
                return least - 1;
            }
            if (way == 1) {
                return greatest + 1;
            }
            if (way == 2) {
                return random.nextInt();
            }
            if (way < 6) {
                return way == 3 ? least : greatest;
            }
            return greatest < least ? least : least + random.nextInt(greatest - least + 1);
        }

        private void arguments(Model m) {
            int turn = m.turns.size() - 1;
            int row = m.rows.size() - 1;
            int step = m.steps.size() - 1;
            bytes = random.nextLong();
            switch (method) {
                case 1 -> a = some(1, 3);
                case 4 -> set(some(0, 2 * turn + 1), some(0, 5), 0);
                case 5, 16 -> set(some(0, row), some(-1, 8), 0);
                case 6 -> set(some(0, row), some(0, 5), 0);
                case 9 -> a = some(0, 5);
                case 10 -> a = some(0, 2 * turn + 1);
                case 12 -> a = some(0, 719);
                case 13 -> set(some(0, turn), some(0, 1), random.nextBoolean() ? some(0, 12) : some(1, 99));
                case 14 -> set(some(0, turn), some(0, turn), random.nextInt(3) == 0 ? some(-9, 99) : some(-9, 3));
                case 15 -> set(some(0, 1), some(0, 99), 0);
                case 19 -> set(some(0, row), random.nextInt(), 0);
                case 20 -> set(some(0, row), random.nextInt(8) == 0 ? some(1, 5) : some(1, 3), 0);
                case 21 -> a = some(-1, 5);
                case 24 -> set(random.nextBoolean() ? some(0, 63) : some(1, 3), some(0, 1023), 0);
                case 26, 33 -> a = some(0, step);
                case 29 -> set(some(0, step), some(0, 1), 0);
                case 30 -> set(some(0, step), some(0, 99), 0);
                case 31 -> a = some(50, 300);
                case 34 -> a = temper < 3 ? some(1, 30) : some(1, 9999);
                case 35 -> a = some(0, 1);
                case 36 -> a = temper < 3 ? some(1, 30) : some(1, 9999);
                case 37 -> a = random.nextInt(4) == 0 ? some(0, 127) : some(8, 14);
                case 38 -> set(some(0, row), random.nextBoolean() ? some(0, 3) : some(0, 99), 0);
                case 42 -> a = some(0, 17);
                default -> a = some(0, row);
            }
        }

        private void set(int one, int other, int third) {
            a = one;
            b = other;
            c = third;
        }

        long call(TurnedInSix x) {
            return switch (method) {
                case 1 -> x.feed(a, bytes);
                case 2 -> x.turn();
                case 3 -> x.row();
                case 4 -> x.goes(a, b);
                case 5 -> x.rowOf(a, b);
                case 6 -> x.does(a, b);
                case 7 -> x.order(a);
                case 8 -> x.keeps(a);
                case 9 -> x.now(a);
                case 10 -> x.make(a);
                case 11 -> x.makeRow(a);
                case 12 -> x.put(a);
                case 13 -> x.time(a, b, c);
                case 14 -> x.after(a, b, c);
                case 15 -> x.locks(a, b);
                case 16 -> x.kind(a, b);
                case 17 -> x.seconds(a);
                case 18 -> x.mean(a);
                case 19 -> x.drawn(a, b);
                case 20 -> x.better(a, b);
                case 21 -> x.found(a);
                case 22 -> x.fewest();
                case 23 -> x.first();
                case 24 -> x.step(a, b);
                case 25 -> x.tried();
                case 26 -> x.triedRow(a);
                case 27 -> x.solves();
                case 28 -> x.lacks();
                case 29 -> x.luck(a, b);
                case 30 -> x.see(a, b);
                case 31 -> x.sum(a);
                case 32 -> x.bestPace();
                case 33 -> x.learn(a);
                case 34 -> x.five(a);
                case 35 -> x.middle(a);
                case 36 -> x.need(a);
                case 37 -> x.film(a);
                case 38 -> x.held(a, b);
                case 39 -> x.heldUp(a);
                case 40 -> x.image();
                case 41 -> x.on();
                default -> x.count(a);
            };
        }

        long call(Model m) {
            long answer = m.answer(method, a, b, c, bytes);
            if (!m.refusedNow) {
                return answer;
            }
            m.refusals[(int) -answer]++;
            return method == 14 ? 1000000000L - answer : answer;
        }

        @Override
        public String toString() {
            return "method " + (method + 1) + " (" + a + ", " + b + ", " + c + ", bytes " + bytes + "L)";
        }
    }

    /** The document once more. A turn is its text's goals, a row its moves, a state an array of pieces. */
    private static final class Model {
        private final List<int[]> turns = new ArrayList<>();
        private final List<int[]> rows = new ArrayList<>();
        private final List<int[]> steps = new ArrayList<>();
        private final int[] refusals = new int[7];
        private boolean refusedNow;
        private String tape = "";
        private int[] now = {0, 1, 2, 3, 4, 5};
        private final int[][] hand = {{10, 10, 10, 10, 10, 10}, new int[6]};
        private final int[][] behind = new int[6][6];
        private final int[] lock = {0, 20};
        private int[] found = {};
        private final List<Integer> five = new ArrayList<>();
        private final List<Integer> film = new ArrayList<>();
        private Model taken;
        private int[] made;
        private int stuck;
        private int[] end;

        private int refuse(int number) {
            refusedNow = true;
            return number;
        }

        private long answer(int method, int a, int b, int c, long bytes) {
            refusedNow = false;
            boolean row = a >= 0 && a < rows.size();
            boolean step = a >= 0 && a < steps.size();
            boolean move = a >= 0 && a < 2 * turns.size();
            boolean turn = move && a < turns.size();
            boolean place = b >= 0 && b < 6;
            boolean part = b == 0 || b == 1;
            return switch (method) {
                case 1 -> a < 1 ? refuse(-4) : a > 8 || tape.length() + a > 16 ? refuse(-6) : feed(a, bytes);
                case 2 -> turns.size() == 6 ? refuse(-6) : turn();
                case 3 -> rows.size() == 10 ? refuse(-6) : row();
                case 4 -> !move || !place ? refuse(-1) : goal(a, b);
                case 5 -> !row ? refuse(-1) : b == -1 ? rows.get(a).length : b >= 0 && b < rows.get(a).length ? rows.get(a)[b] : -9;
                case 6 -> !row || !place ? refuse(-1) : does(rows.get(a), b);
                case 7 -> row ? order(rows.get(a)) : refuse(-1);
                case 8 -> row ? keeps(rows.get(a)) : refuse(-1);
                case 9 -> a >= 0 && a < 6 ? now[a] : refuse(-1);
                case 10 -> move ? put(made(now, a)) : refuse(-1);
                case 11 -> row ? put(made(now, rows.get(a))) : refuse(-1);
                case 12 -> a < 0 ? refuse(-4) : a > 719 ? refuse(-6) : put(orders().get(a));
                case 13 -> !turn ? refuse(-1) : !part ? refuse(-2) : c < 1 - b ? refuse(-4) : c > 99 ? refuse(-6) : set(hand[b], a, c);
                case 14 -> !turn || b < 0 || b >= turns.size() ? refuse(-1) : c < -9 ? refuse(-4) : c > 99 ? refuse(-6) : set(behind[a], b, c);
                case 15 -> a != 0 && a != 1 ? refuse(-2) : b < 0 ? refuse(-4) : b > 100 - a ? refuse(-6) : set(lock, a, b);
                case 16 -> !row ? refuse(-1) : b < 0 || b >= rows.get(a).length ? -9 : kind(rows.get(a), b);
                case 17 -> row ? seconds(rows.get(a)) : refuse(-1);
                case 18 -> row ? 100 * seconds(rows.get(a)) + rows.get(a).length * lock[0] * lock[1] : refuse(-1);
                case 19 -> row ? drawn(rows.get(a), b) : refuse(-1);
                case 20 -> !row ? refuse(-1) : b < 1 ? refuse(-4) : b > 5 ? refuse(-6) : better(rows.get(a), b);
                case 21 -> a == -1 ? found.length : a >= 0 && a < found.length ? found[a] : -9;
                case 22 -> fewest(now);
                case 23 -> first();
                case 24 -> a < 0 || a > 63 || b < 0 || b > 1023 ? refuse(-1) : steps.size() == 4 ? refuse(-6) : step(a, b);
                case 25 -> tryFrom(now) ? -9 : stuck;
                case 26 -> step ? triedRow(a) : refuse(-1);
                case 27 -> solves();
                case 28 -> lacks();
                case 29 -> !step ? refuse(-1) : !part ? refuse(-2) : luck(a, b);
                case 30 -> !step ? refuse(-1) : b < 0 ? refuse(-4) : b > 99 ? refuse(-6) : set(steps.get(a), 2, b);
                case 31 -> a < 50 ? refuse(-4) : a > 300 ? refuse(-6) : sum(a);
                case 32 -> bestPace();
                case 33 -> step ? learn(a) : refuse(-1);
                case 34 -> a < 1 ? refuse(-4) : a > 9999 || five.size() == 5 ? refuse(-6) : added(five, a);
                case 35 -> a != 0 && a != 1 ? refuse(-2) : five.size() != 5 ? refuse(-3) : middle(a);
                case 36 -> a < 1 ? refuse(-4) : a > 9999 ? refuse(-6) : five.size() != 4 ? refuse(-3) : need(a);
                case 37 -> a < 0 ? refuse(-4) : a > 127 || film.size() == 8 ? refuse(-6) : added(film, a);
                case 38 -> !row ? refuse(-1) : b < 0 ? refuse(-4) : b > 99 ? refuse(-6) : held(rows.get(a), b);
                case 39 -> row ? heldUp(rows.get(a)) : refuse(-1);
                case 40 -> image();
                case 41 -> taken == null ? refuse(-3) : on();
                default -> count(a);
            };
        }

        private int feed(int n, long bytes) {
            for (int i = 0; i < n; i++) {
                tape += (char) (bytes >>> 8 * i & 255);
            }
            return tape.length();
        }

        /** By the grammar: the longest head of the text that some text of rings begins with. */
        private int turn() {
            String text = tape;
            tape = "";
            int good = 0;
            while (good < text.length() && text.substring(0, good + 1).matches("(\\([a-f]{2,6}\\))*(\\([a-f]{0,6})?")
                && eachOnce(text.substring(0, good + 1))) {
                good++;
            }
            if (good < text.length() || !text.matches("(\\([a-f]{2,6}\\))+")) {
                return -20 - good;
            }
            int[] goals = {0, 1, 2, 3, 4, 5};
            for (String ring : text.substring(1, text.length() - 1).split("\\)\\(")) {
                for (int i = 0; i < ring.length(); i++) {
                    goals[ring.charAt(i) - 'a'] = ring.charAt((i + 1) % ring.length()) - 'a';
                }
            }
            int number = turns.size();
            turns.add(goals);
            hand[0][number] = 10;
            hand[1][number] = 0;
            for (int i = 0; i < 6; i++) {
                behind[i][number] = 0;
                behind[number][i] = 0;
            }
            return number;
        }

        private static boolean eachOnce(String text) {
            return text.chars().filter(letter -> letter >= 'a').distinct().count()
                == text.chars().filter(letter -> letter >= 'a').count();
        }

        private int row() {
            String text = tape;
            tape = "";
            if (turns.isEmpty()) {
                return -20;
            }
            String move = "([0-" + (turns.size() - 1) + "]'?)";
            int good = 0;
            while (good < text.length() && text.substring(0, good + 1).matches(move + "{1,8}")) {
                good++;
            }
            if (good < text.length() || good == 0) {
                return -20 - good;
            }
            List<Integer> moves = new ArrayList<>();
            for (char sign : text.toCharArray()) {
                if (sign == '\'') {
                    moves.set(moves.size() - 1, moves.get(moves.size() - 1) + 1);
                } else {
                    moves.add(2 * (sign - '0'));
                }
            }
            rows.add(moves.stream().mapToInt(Integer::intValue).toArray());
            return rows.size() - 1;
        }

        private int goal(int move, int place) {
            int[] goals = turns.get(move / 2);
            if (move % 2 == 0) {
                return goals[place];
            }
            for (int from = 0; from < 6; from++) {
                if (goals[from] == place) {
                    return from;
                }
            }
            throw new IllegalStateException();
        }

        private int does(int[] row, int place) {
            int at = place;
            for (int move : row) {
                at = goal(move, at);
            }
            return at;
        }

        private int[] made(int[] pieces, int... row) {
            int[] then = new int[6];
            for (int place = 0; place < 6; place++) {
                then[does(row, place)] = pieces[place];
            }
            return then;
        }

        private static boolean solved(int[] pieces) {
            return Arrays.equals(pieces, new int[] {0, 1, 2, 3, 4, 5});
        }

        private int put(int[] pieces) {
            now = pieces.clone();
            return solved(now) ? 1 : 0;
        }

        private int order(int[] row) {
            int[] pieces = {0, 1, 2, 3, 4, 5};
            int often = 0;
            do {
                pieces = made(pieces, row);
                often++;
            } while (!solved(pieces));
            return often;
        }

        private int keeps(int[] row) {
            int bits = 0;
            for (int place = 0; place < 6; place++) {
                bits += does(row, place) == place ? 1 << place : 0;
            }
            return bits;
        }

        private static final List<int[]> ORDERS = new ArrayList<>();

        private static List<int[]> orders() {
            for (int number = 0; number < 1000000 && ORDERS.size() < 720; number++) {
                int[] digits = String.format("%06d", number).chars().map(digit -> digit - '0').toArray();
                if (Arrays.stream(digits).max().getAsInt() < 6 && Arrays.stream(digits).distinct().count() == 6) {
                    ORDERS.add(digits);
                }
            }
            return ORDERS;
        }

        private static int set(int[] values, int at, int v) {
            int was = values[at];
            values[at] = v;
            return was;
        }

        private int kind(int[] row, int i) {
            if (i == 0) {
                return 0;
            }
            if (row[i] / 2 == row[i - 1] / 2 && row[i] != row[i - 1]) {
                return 3;
            }
            int more = behind[row[i - 1] / 2][row[i] / 2];
            return more < 0 ? 1 : more > 0 ? 2 : 0;
        }

        private int takes(int[] row, int i) {
            int all = hand[0][row[i] / 2] + (row[i] % 2 == 1 ? hand[1][row[i] / 2] : 0);
            return Math.max(1, i > 0 ? all + behind[row[i - 1] / 2][row[i] / 2] : all);
        }

        private int seconds(int[] row) {
            int all = 0;
            for (int i = 0; i < row.length; i++) {
                all += takes(row, i);
            }
            return all;
        }

        private int drawn(int[] row, int seed) {
            int z = seed;
            int all = seconds(row);
            for (int i = 0; i < row.length; i++) {
                z = z * 1664525 + 1013904223;
                long bare = z < 0 ? z + (1L << 31) : z;
                all += bare / 256 % 100 < lock[0] ? lock[1] : 0;
            }
            return all;
        }

        /** All rows of so many MOVES, one behind the other in their order. */
        private int better(int[] row, int n) {
            int[] aim = made(new int[] {0, 1, 2, 3, 4, 5}, row);
            int[] best = null;
            for (int length = 1; length <= n; length++) {
                int[] tried = new int[length];
                boolean more = true;
                while (more) {
                    if ((best == null || seconds(tried) < seconds(best)) && Arrays.equals(aim, made(new int[] {0, 1, 2, 3, 4, 5}, tried))) {
                        best = tried.clone();
                    }
                    int at = length - 1;
                    while (at >= 0 && tried[at] == 2 * turns.size() - 1) {
                        tried[at] = 0;
                        at--;
                    }
                    more = at >= 0;
                    if (more) {
                        tried[at]++;
                    }
                }
            }
            if (best == null) {
                return refuse(-3);
            }
            found = best;
            return seconds(best);
        }

        private int fewest(int[] from) {
            List<String> seen = new ArrayList<>(List.of(Arrays.toString(from)));
            List<int[]> edge = List.of(from);
            for (int far = 0; !edge.isEmpty(); far++) {
                List<int[]> next = new ArrayList<>();
                for (int[] pieces : edge) {
                    if (solved(pieces)) {
                        return far;
                    }
                    for (int move = 0; move < 2 * turns.size(); move++) {
                        int[] then = made(pieces, move);
                        if (!seen.contains(Arrays.toString(then))) {
                            seen.add(Arrays.toString(then));
                            next.add(then);
                        }
                    }
                }
                edge = next;
            }
            return -9;
        }

        private int first() {
            int far = fewest(now);
            for (int move = 0; move < 2 * turns.size() && far > 0; move++) {
                if (fewest(made(now, move)) == far - 1) {
                    return move;
                }
            }
            return -9;
        }

        private int step(int places, int rowSet) {
            steps.add(new int[] {places, rowSet, 0});
            return steps.size() - 1;
        }

        private boolean done(int[] pieces, int step) {
            for (int ahead = 0; ahead <= step; ahead++) {
                for (int place = 0; place < 6; place++) {
                    if ((steps.get(ahead)[0] & 1 << place) != 0 && pieces[place] != place) {
                        return false;
                    }
                }
            }
            return true;
        }

        /** Whether a TRY is not STUCK; made, stuck and end tell more of it. */
        private boolean tryFrom(int[] from) {
            made = new int[] {-9, -9, -9, -9};
            stuck = -9;
            end = from;
            for (int step = 0; step < steps.size(); step++) {
                for (int row = 0; row < rows.size() && !done(end, step); row++) {
                    if ((steps.get(step)[1] & 1 << row) != 0 && done(made(end, rows.get(row)), step)) {
                        end = made(end, rows.get(row));
                        made[step] = row;
                    }
                }
                if (!done(end, step)) {
                    stuck = step;
                    return false;
                }
            }
            return true;
        }

        private int triedRow(int step) {
            tryFrom(now);
            return made[step];
        }

        private int solves() {
            int all = 0;
            for (int[] from : orders()) {
                all += tryFrom(from) && solved(end) ? 1 : 0;
            }
            return all;
        }

        private int lacks() {
            for (int number = 0; number < 720; number++) {
                if (!tryFrom(orders().get(number)) || !solved(end)) {
                    return number;
                }
            }
            return -9;
        }

        private int luck(int step, int part) {
            int come = 0;
            int lucky = 0;
            for (int[] from : orders()) {
                tryFrom(from);
                if (stuck == -9 || stuck >= step) {
                    come++;
                    lucky += stuck != step && made[step] == -9 ? 1 : 0;
                }
            }
            if (come == 0) {
                return part;
            }
            int divisor = java.math.BigInteger.valueOf(come).gcd(java.math.BigInteger.valueOf(lucky)).intValue();
            return (part == 0 ? lucky : come) / divisor;
        }

        private int sum(int pace) {
            if (!tryFrom(now)) {
                return -9;
            }
            int all = 0;
            for (int step = 0; step < steps.size(); step++) {
                if (step > 0) {
                    int ahead = made[step - 1] == -9 ? 0 : seconds(rows.get(made[step - 1])) * pace / 100;
                    all += Math.max(steps.get(step)[2] - ahead, 0);
                }
                all += made[step] == -9 ? 0 : seconds(rows.get(made[step])) * pace / 100;
            }
            return all;
        }

        private int bestPace() {
            int best = -9;
            for (int pace = 300; pace >= 50; pace -= 10) {
                if (sum(pace) != -9 && (best == -9 || sum(pace) < sum(best))) {
                    best = pace;
                }
            }
            return best;
        }

        private int learn(int step) {
            int own = steps.get(step)[1];
            int best = -9;
            int most = solves();
            for (int row = 0; row < rows.size(); row++) {
                steps.get(step)[1] = own | 1 << row;
                int solved = solves();
                if ((own & 1 << row) == 0 && solved > most) {
                    most = solved;
                    best = row;
                }
            }
            steps.get(step)[1] = own;
            return best;
        }

        private static int added(List<Integer> values, int v) {
            values.add(v);
            return values.size();
        }

        private static int three(List<Integer> times) {
            return times.stream().sorted().skip(1).limit(3).mapToInt(Integer::intValue).sum();
        }

        private int middle(int part) {
            int all = three(five);
            if (part == 1) {
                five.clear();
            }
            return part == 0 ? all % 3 == 0 ? all / 3 : all : all % 3 == 0 ? 1 : 3;
        }

        private int need(int most) {
            List<Integer> all = new ArrayList<>(five);
            all.add(0);
            int least = 0;
            int greatest = 9999;
            while (least < greatest) {
                int fifth = (least + greatest + 1) / 2;
                all.set(4, fifth);
                if (three(all) <= 3 * most) {
                    least = fifth;
                } else {
                    greatest = fifth - 1;
                }
            }
            return least == 0 ? -9 : least;
        }

        private int held(int[] row, int more) {
            for (int i = 0; i < Math.min(row.length, film.size()); i++) {
                if (film.get(i) > takes(row, i) + more) {
                    return i;
                }
            }
            return film.size() > row.length ? 99 : film.size() < row.length ? film.size() : -9;
        }

        private int heldUp(int[] row) {
            int all = 0;
            for (int i = 0; i < film.size(); i++) {
                all += i < row.length ? Math.max(0, film.get(i) - takes(row, i)) : film.get(i);
            }
            film.clear();
            return all;
        }

        /** A full copy, so that nothing rests on what comes behind what. */
        private void copy(Model from) {
            turns.clear();
            rows.clear();
            steps.clear();
            from.turns.forEach(turn -> turns.add(turn.clone()));
            from.rows.forEach(row -> rows.add(row.clone()));
            from.steps.forEach(step -> steps.add(step.clone()));
            now = from.now.clone();
            for (int i = 0; i < 2; i++) {
                System.arraycopy(from.hand[i], 0, hand[i], 0, 6);
                lock[i] = from.lock[i];
            }
            for (int i = 0; i < 6; i++) {
                System.arraycopy(from.behind[i], 0, behind[i], 0, 6);
            }
        }

        private int image() {
            taken = new Model();
            taken.copy(this);
            return rows.size();
        }

        private int on() {
            copy(taken);
            return rows.size();
        }

        private int count(int what) {
            int own = 0;
            for (int place = 0; place < 6; place++) {
                own += now[place] == place ? 1 : 0;
            }
            int[] counts = {turns.size(), rows.size(), steps.size(), own, five.size(), film.size(), tape.length()};
            return what >= 0 && what < 7 ? counts[what] : what > 10 && what < 17 ? refusals[what - 10] : -9;
        }
    }
}
