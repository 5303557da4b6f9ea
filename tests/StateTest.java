import java.util.ArrayList;
import java.util.List;

// What a call leaves as it was: all that can be seen of an object behind a refused call, behind a FAULT, and behind a
// call that only tells, beside an object made alike without that call. No object is used for more than 512 calls.
public final class StateTest {
    private static int wrong = 0;
    private static int looked = 0;
    private static String sentence = "";

    private interface Call {
        long on(TurnedInSix x);
    }

    public static void main(String[] args) {
        refused();
        fault();
        changesNothing();
        System.out.println(wrong == 0 ? looked + " answers are as due" : wrong + " answers are not as due");
        if (wrong != 0) {
            System.exit(1);
        }
    }

    private static void says(String words) {
        sentence = words;
    }

    private static void due(String call, long got, long want) {
        looked++;
        if (got != want) {
            wrong++;
            System.out.println("\"" + sentence + "\": " + call + " answered " + got + ", due is " + want);
        }
    }

    /** Feeds a text in parts of 8 bytes. */
    private static void text(TurnedInSix x, String text) {
        for (int from = 0; from < text.length(); from += 8) {
            int to = Math.min(text.length(), from + 8);
            long bytes = 0;
            for (int i = to - 1; i >= from; i--) {
                bytes = bytes << 8 | text.charAt(i);
            }
            x.feed(to - from, bytes);
        }
    }

    private static void turn(TurnedInSix x, String text) {
        text(x, text);
        x.turn();
    }

    private static void row(TurnedInSix x, String text) {
        text(x, text);
        x.row();
    }

    /** All that can be seen of half() and of full(), each at once and behind on(). */
    private static List<int[]> states() {
        return List.of(seen(half(true), false), seen(half(true), true), seen(full(), false), seen(full(), true));
    }

    /** What a call must leave as it was is looked at on objects made alike: one calls, one does not. */
    private static void refused() {
        says("nothing changes but how many there were");
        List<int[]> wants = states();
        halfRefused(wants);
        fullRefused(wants);
        TurnedInSix x = half(false);
        due("on() without an image", x.on(), -3);
        int[] want = seen(half(false), false);
        want[13]++;
        same("on()", seen(x, false), want);
    }

    private static void halfRefused(List<int[]> wants) {
        boolean full = false;
        refusal(wants, full, "feed(0, 0)", -4, x -> x.feed(0, 0));
        refusal(wants, full, "feed(9, 0)", -6, x -> x.feed(9, 0));
        refusal(wants, full, "goes(6, 0)", -1, x -> x.goes(6, 0));
        refusal(wants, full, "goes(0, 6)", -1, x -> x.goes(0, 6));
        refusal(wants, full, "goes(-1, -1)", -1, x -> x.goes(-1, -1));
        refusal(wants, full, "rowOf(4, -1)", -1, x -> x.rowOf(4, -1));
        refusal(wants, full, "does(4, 6)", -1, x -> x.does(4, 6));
        refusal(wants, full, "order(4)", -1, x -> x.order(4));
        refusal(wants, full, "keeps(4)", -1, x -> x.keeps(4));
        refusal(wants, full, "now(6)", -1, x -> x.now(6));
        refusal(wants, full, "make(6)", -1, x -> x.make(6));
        refusal(wants, full, "make(-1)", -1, x -> x.make(-1));
        refusal(wants, full, "makeRow(4)", -1, x -> x.makeRow(4));
        refusal(wants, full, "put(-1)", -4, x -> x.put(-1));
        refusal(wants, full, "put(720)", -6, x -> x.put(720));
        refusal(wants, full, "time(3, 2, 0)", -1, x -> x.time(3, 2, 0));
        refusal(wants, full, "time(2, 2, 0)", -2, x -> x.time(2, 2, 0));
        refusal(wants, full, "time(2, 0, 0)", -4, x -> x.time(2, 0, 0));
        refusal(wants, full, "time(2, 1, -1)", -4, x -> x.time(2, 1, -1));
        refusal(wants, full, "time(2, 0, 100)", -6, x -> x.time(2, 0, 100));
        refusal(wants, full, "time(2, 1, 100)", -6, x -> x.time(2, 1, 100));
        refusal(wants, full, "after(3, 0, -10)", -1, x -> 1000000000 - x.after(3, 0, -10));
        refusal(wants, full, "after(0, 3, 100)", -1, x -> 1000000000 - x.after(0, 3, 100));
        refusal(wants, full, "after(2, 0, -10)", -4, x -> 1000000000 - x.after(2, 0, -10));
        refusal(wants, full, "after(2, 0, 100)", -6, x -> 1000000000 - x.after(2, 0, 100));
        refusal(wants, full, "locks(2, -1)", -2, x -> x.locks(2, -1));
        refusal(wants, full, "locks(0, -1)", -4, x -> x.locks(0, -1));
        refusal(wants, full, "locks(0, 101)", -6, x -> x.locks(0, 101));
        refusal(wants, full, "locks(1, 100)", -6, x -> x.locks(1, 100));
        refusal(wants, full, "kind(4, 0)", -1, x -> x.kind(4, 0));
        refusal(wants, full, "seconds(4)", -1, x -> x.seconds(4));
        refusal(wants, full, "mean(4)", -1, x -> x.mean(4));
        refusal(wants, full, "drawn(4, 1)", -1, x -> x.drawn(4, 1));
        refusal(wants, full, "better(4, 0)", -1, x -> x.better(4, 0));
        refusal(wants, full, "better(4, 6)", -1, x -> x.better(4, 6));
        refusal(wants, full, "better(0, 0)", -4, x -> x.better(0, 0));
        refusal(wants, full, "better(0, 6)", -6, x -> x.better(0, 6));
        refusal(wants, full, "better(3, 1)", -3, x -> x.better(3, 1));
        refusal(wants, full, "step(64, 0)", -1, x -> x.step(64, 0));
        refusal(wants, full, "step(0, 1024)", -1, x -> x.step(0, 1024));
        refusal(wants, full, "triedRow(2)", -1, x -> x.triedRow(2));
        refusal(wants, full, "luck(2, 2)", -1, x -> x.luck(2, 2));
        refusal(wants, full, "luck(1, 2)", -2, x -> x.luck(1, 2));
        refusal(wants, full, "see(2, -1)", -1, x -> x.see(2, -1));
        refusal(wants, full, "see(2, 100)", -1, x -> x.see(2, 100));
        refusal(wants, full, "see(1, -1)", -4, x -> x.see(1, -1));
        refusal(wants, full, "see(1, 100)", -6, x -> x.see(1, 100));
        refusal(wants, full, "sum(49)", -4, x -> x.sum(49));
        refusal(wants, full, "sum(301)", -6, x -> x.sum(301));
        refusal(wants, full, "learn(2)", -1, x -> x.learn(2));
        refusal(wants, full, "five(0)", -4, x -> x.five(0));
        refusal(wants, full, "five(10000)", -6, x -> x.five(10000));
        refusal(wants, full, "middle(2)", -2, x -> x.middle(2));
        refusal(wants, full, "middle(0)", -3, x -> x.middle(0));
        refusal(wants, full, "middle(1)", -3, x -> x.middle(1));
        refusal(wants, full, "need(0)", -4, x -> x.need(0));
        refusal(wants, full, "need(10000)", -6, x -> x.need(10000));
        refusal(wants, full, "film(-1)", -4, x -> x.film(-1));
        refusal(wants, full, "film(128)", -6, x -> x.film(128));
        refusal(wants, full, "held(4, -1)", -1, x -> x.held(4, -1));
        refusal(wants, full, "held(0, -1)", -4, x -> x.held(0, -1));
        refusal(wants, full, "held(0, 100)", -6, x -> x.held(0, 100));
        refusal(wants, full, "heldUp(4)", -1, x -> x.heldUp(4));
    }

    private static void fullRefused(List<int[]> wants) {
        boolean full = true;
        refusal(wants, full, "feed(0, 0)", -4, x -> x.feed(0, 0));
        refusal(wants, full, "feed(1, 0)", -6, x -> x.feed(1, 0));
        refusal(wants, full, "feed(8, 0)", -6, x -> x.feed(8, 0));
        refusal(wants, full, "turn()", -6, x -> x.turn());
        refusal(wants, full, "row()", -6, x -> x.row());
        refusal(wants, full, "goes(12, 0)", -1, x -> x.goes(12, 0));
        refusal(wants, full, "make(12)", -1, x -> x.make(12));
        refusal(wants, full, "makeRow(10)", -1, x -> x.makeRow(10));
        refusal(wants, full, "time(6, 0, 1)", -1, x -> x.time(6, 0, 1));
        refusal(wants, full, "after(6, 0, 1)", -1, x -> 1000000000 - x.after(6, 0, 1));
        refusal(wants, full, "better(10, 1)", -1, x -> x.better(10, 1));
        refusal(wants, full, "step(0, 0)", -6, x -> x.step(0, 0));
        refusal(wants, full, "step(-1, 0)", -1, x -> x.step(-1, 0));
        refusal(wants, full, "see(4, 1)", -1, x -> x.see(4, 1));
        refusal(wants, full, "learn(4)", -1, x -> x.learn(4));
        refusal(wants, full, "five(1)", -6, x -> x.five(1));
        refusal(wants, full, "five(0)", -4, x -> x.five(0));
        refusal(wants, full, "middle(-1)", -2, x -> x.middle(-1));
        refusal(wants, full, "need(5)", -3, x -> x.need(5));
        refusal(wants, full, "need(0)", -4, x -> x.need(0));
        refusal(wants, full, "need(10000)", -6, x -> x.need(10000));
        refusal(wants, full, "film(1)", -6, x -> x.film(1));
        refusal(wants, full, "film(-1)", -4, x -> x.film(-1));
        refusal(wants, full, "heldUp(10)", -1, x -> x.heldUp(10));
    }

    private static void fault() {
        says("-20 less its place (nothing is counted; THE TAPE has none, too)");
        TurnedInSix x = half(true);
        due("turn() of (ae)(bc", x.turn(), -27);
        TurnedInSix y = half(true);
        due("row() of (ae)(bc", y.row(), -20);
        int[] want = states().get(0);
        want[6] = 0;
        same("turn()", seen(x, false), want);
        same("row()", seen(y, false), want);
    }

    private static void changesNothing() {
        says("what only tells changes nothing and counts nothing, -9 neither");
        List<int[]> wants = states();
        for (int i = 0; i < 2; i++) {
            boolean full = i == 1;
            stays(wants, full, "goes", x -> x.goes(1, 1) + x.goes(0, 5));
            stays(wants, full, "rowOf", x -> x.rowOf(0, -1) + x.rowOf(0, 9) + x.rowOf(0, -2));
            stays(wants, full, "does, order, keeps", x -> x.does(1, 1) + x.order(1) + x.keeps(1));
            stays(wants, full, "now", x -> x.now(0) + x.now(5));
            stays(wants, full, "kind", x -> x.kind(0, 0) + x.kind(0, -1) + x.kind(0, 8));
            stays(wants, full, "seconds, mean, drawn", x -> x.seconds(0) + x.mean(0) + x.drawn(0, 99));
            stays(wants, full, "found", x -> x.found(-1) + x.found(0) + x.found(-2) + x.found(5));
            stays(wants, full, "fewest, first", x -> x.fewest() + x.first());
            stays(wants, full, "tried, triedRow", x -> x.tried() + x.triedRow(0) + x.triedRow(1));
            stays(wants, full, "solves, lacks", x -> x.solves() + x.lacks());
            stays(wants, full, "luck", x -> x.luck(0, 0) + x.luck(1, 1));
            stays(wants, full, "sum, bestPace", x -> x.sum(50) + x.sum(300) + x.bestPace());
            stays(wants, full, "learn", x -> x.learn(0) + x.learn(1));
            stays(wants, full, "held", x -> x.held(0, 0) + x.held(1, 99));
            stays(wants, full, "count", x -> x.count(-1) + x.count(0) + x.count(17) + x.count(11));
        }
        stays(wants, false, "need", x -> x.need(1) + x.need(5) + x.need(9999));
        stays(wants, true, "middle(0)", x -> x.middle(0));
    }

    private static void refusal(List<int[]> wants, boolean full, String name, int number, Call call) {
        for (int behindOn = 0; behindOn < 2; behindOn++) {
            TurnedInSix x = full ? full() : half(true);
            due((full ? "full: " : "") + name, call.on(x), number);
            int[] want = wants.get((full ? 2 : 0) + behindOn).clone();
            want[10 - number]++;
            same(name, seen(x, behindOn == 1), want);
        }
    }

    private static void stays(List<int[]> wants, boolean full, String name, Call call) {
        for (int behindOn = 0; behindOn < 2; behindOn++) {
            TurnedInSix x = full ? full() : half(true);
            long answer = call.on(x);
            due(name + " once more", call.on(x), answer);
            same(name, seen(x, behindOn == 1), wants.get((full ? 2 : 0) + behindOn));
        }
    }

    private static void same(String name, int[] got, int[] want) {
        due("how much is seen behind " + name, got.length, want.length);
        for (int i = 0; i < Math.min(got.length, want.length); i++) {
            if (got[i] != want[i]) {
                due("what is seen behind " + name + ", number " + i + " of it", got[i], want[i]);
                return;
            }
        }
        looked++;
    }

    /** 3 TURNS, 4 ROWS, 2 STEPS, 4 times, 3 bytes of film, 7 on THE TAPE, an image of less. */
    private static TurnedInSix half(boolean image) {
        TurnedInSix x = new TurnedInSix();
        turn(x, "(abc)");
        turn(x, "(cd)");
        row(x, "01");
        row(x, "1");
        x.step(1, 5);
        x.time(0, 0, 12);
        x.see(0, 3);
        x.put(300);
        x.locks(0, 44);
        if (image) {
            x.image();
        }
        turn(x, "(ef)(ab)");
        row(x, "20'1");
        row(x, "0120");
        x.step(6, 11);
        x.see(1, 33);
        x.time(1, 1, 5);
        x.time(2, 0, 8);
        x.after(0, 1, -4);
        x.after(2, 0, 7);
        x.locks(0, 30);
        x.locks(1, 9);
        x.better(0, 3);
        x.put(120);
        int[] times = {30, 10, 40, 20};
        for (int v : times) {
            x.five(v);
        }
        x.film(14);
        x.film(7);
        x.film(33);
        text(x, "(ae)(bc");
        x.now(6);
        x.put(-1);
        return x;
    }

    /** As many of all as there can be. */
    private static TurnedInSix full() {
        TurnedInSix x = new TurnedInSix();
        turn(x, "(abc)");
        turn(x, "(cd)");
        row(x, "01");
        row(x, "1");
        x.step(3, 3);
        x.image();
        String[] turns = {"(ef)", "(ab)", "(bd)(ce)", "(fa)"};
        for (String text : turns) {
            turn(x, text);
        }
        String[] rows = {"2", "3", "45", "0'1'2'3'4'5'0'1'", "3'", "11", "02", "5"};
        for (String text : rows) {
            row(x, text);
        }
        x.step(4, 1023);
        x.step(8, 1023);
        x.step(63, 1023);
        x.see(3, 17);
        x.after(5, 5, 5);
        x.time(5, 1, 6);
        x.better(2, 2);
        x.put(33);
        for (int i = 0; i < 5; i++) {
            x.five(200 - 7 * i * i);
        }
        for (int i = 0; i < 8; i++) {
            x.film(5 * i);
        }
        text(x, "0'1'0'1'0'1'0'1'");
        return x;
    }

    /** All that can be seen of an object, or of it behind on(); in front what count() says, REFUSAL -n at 10 + n. */
    private static int[] seen(TurnedInSix x, boolean behindOn) {
        List<Integer> told = new ArrayList<>();
        for (int what = 0; what <= 16; what++) {
            told.add(x.count(what));
        }
        if (behindOn) {
            told.add(x.on());
        }
        turnsAndRows(x, told);
        waysAndTimes(x, told);
        if (behindOn) {
            tapeOf(x, told);
        }
        return told.stream().mapToInt(Integer::intValue).toArray();
    }

    private static void turnsAndRows(TurnedInSix x, List<Integer> told) {
        for (int place = 0; place < 6; place++) {
            told.add(x.now(place));
            for (int turn = 0; turn < x.count(0); turn++) {
                told.add(x.goes(2 * turn, place));
            }
        }
        int turns = x.count(0);
        for (int one = 0; one < turns; one++) {
            for (int what = 0; what < 2; what++) {
                int was = x.time(one, what, 50);
                x.time(one, what, was);
                told.add(was);
            }
        }
        for (int row = 0; row < x.count(1); row++) {
            int length = x.rowOf(row, -1);
            told.add(length);
            for (int i = 0; i < length; i++) {
                told.add(x.rowOf(row, i));
            }
            told.add(x.seconds(row));
            told.add(x.mean(row));
        }
        int length = x.found(-1);
        for (int i = -1; i < length; i++) {
            told.add(x.found(i));
        }
        told.add(x.fewest());
        told.add(x.first());
        for (int one = 0; one < turns; one++) {
            int was = x.after(one, (one + 1) % turns, 50);
            x.after(one, (one + 1) % turns, was);
            told.add(was);
        }
    }

    private static void waysAndTimes(TurnedInSix x, List<Integer> told) {
        for (int what = 0; what < 2; what++) {
            int was = x.locks(what, 50);
            x.locks(what, was);
            told.add(was);
        }
        told.add(x.tried());
        told.add(x.solves());
        told.add(x.lacks());
        told.add(x.sum(123));
        told.add(x.bestPace());
        for (int step = 0; step < x.count(2); step++) {
            told.add(x.triedRow(step));
            told.add(x.luck(step, 0));
            told.add(x.luck(step, 1));
            told.add(x.learn(step));
            int was = x.see(step, 50);
            x.see(step, was);
            told.add(was);
        }
        if (x.count(4) == 4) {
            for (int most = 10; most < 50; most += 10) {
                told.add(x.need(most));
            }
        } else {
            told.add(x.middle(0));
        }
        for (int row = 0; row < x.count(1) && row < 4; row++) {
            told.add(x.held(row, 0));
            told.add(x.held(row, 20));
        }
        told.add(x.heldUp(0));
    }

    /** What stands on THE TAPE: as a ROW, or with a last ")" as a TURN. */
    private static void tapeOf(TurnedInSix x, List<Integer> told) {
        if (x.count(6) == 16) {
            told.add(x.row());
            for (int i = -1; i < 8; i++) {
                told.add(x.rowOf(2, i));
            }
            return;
        }
        told.add(x.feed(1, ')'));
        told.add(x.turn());
        for (int place = 0; place < 6; place++) {
            told.add(x.goes(4, place));
        }
    }
}
