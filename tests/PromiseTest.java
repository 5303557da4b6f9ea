// Each promise of the document by itself: ordinary inputs, the edges that it names, and each refusal in its order.
public final class PromiseTest {
    private static int wrong = 0;
    private static int looked = 0;
    private static int promise = 0;

    private static void due(String call, int got, int want) {
        looked++;
        if (got != want) {
            wrong++;
            System.out.println("promise " + promise + ": " + call + " answered " + got + ", due is " + want);
        }
    }

    /** Feeds a text in parts of 8 bytes. */
    private static void text(TurnedInSix x, String text) {
        for (int from = 0; from < text.length(); from += 8) {
            int to = Math.min(text.length(), from + 8);
            long bytes = 0;
            for (int i = to - 1; i >= from; i--) {
                bytes = bytes << 8 | text.charAt(i);
            }
            x.feed(to - from, bytes);
        }
    }

    private static int turn(TurnedInSix x, String text) {
        text(x, text);
        return x.turn();
    }

    private static int row(TurnedInSix x, String text) {
        text(x, text);
        return x.row();
    }

    private static TurnedInSix with(String[] turns, String[] rows) {
        TurnedInSix x = new TurnedInSix();
        for (String text : turns) {
            turn(x, text);
        }
        for (String text : rows) {
            row(x, text);
        }
        return x;
    }

    /** Turns 0 (abc), 1 (cdef); rows 0 "01", 1 "00'", 2 "0'1'1", 3 "00000000". */
    private static TurnedInSix two() {
        return with(new String[] {"(abc)", "(cdef)"}, new String[] {"01", "00'", "0'1'1", "00000000"});
    }

    private static void refused(TurnedInSix x, int number, int often) {
        due("count of refusals " + number, x.count(10 - number), often);
    }

    public static void main(String[] args) {
        newObject();
        tape();
        readTurns();
        readRows();
        goals();
        rowsTold();
        now();
        hand();
        kindsAndTimes();
        locks();
        better();
        fewest();
        triesOfAWay();
        allTries();
        eyes();
        learn();
        five();
        films();
        image();
        counts();
        System.out.println(wrong == 0 ? looked + " answers are as due" : wrong + " answers are not as due");
        if (wrong != 0) {
            System.exit(1);
        }
    }

    private static void newObject() {
        promise = 1;
        TurnedInSix x = new TurnedInSix();
        for (int place = 0; place < 6; place++) {
            due("now(" + place + ")", x.now(place), place);
        }
        for (int what = 0; what <= 16; what++) {
            due("count(" + what + ")", x.count(what), what == 3 ? 6 : what >= 7 && what <= 10 ? -9 : 0);
        }
        due("fewest()", x.fewest(), 0);
        due("found(-1)", x.found(-1), 0);
        due("locks(0, 0)", x.locks(0, 0), 0);
        due("locks(1, 0)", x.locks(1, 0), 20);
        due("on()", x.on(), -3);
    }

    private static void tape() {
        promise = 2;
        TurnedInSix x = new TurnedInSix();
        due("feed(0)", x.feed(0, 1), -4);
        due("feed(min)", x.feed(Integer.MIN_VALUE, 1), -4);
        due("feed(9)", x.feed(9, 1), -6);
        due("feed(max)", x.feed(Integer.MAX_VALUE, 1), -6);
        due("feed(8)", x.feed(8, -1L), 8);
        due("feed(7)", x.feed(7, -1L), 15);
        due("feed(2), one too many", x.feed(2, -1L), -6);
        due("count(6)", x.count(6), 15);
        due("feed(1)", x.feed(1, -1L), 16);
        due("feed(1), full", x.feed(1, -1L), -6);
        due("feed(0), full", x.feed(0, -1L), -4);
        refused(x, -4, 3);
        refused(x, -6, 4);
        due("turn() of bytes 255", x.turn(), -20);
        // The lowest byte first, and none of those behind the first n.
        x.feed(1, ((long) 'z' << 8) + '(');
        x.feed(3, ((long) ')' << 16) + ((long) 'f' << 8) + 'e');
        due("turn()", x.turn(), 0);
        due("goes(0, 4)", x.goes(0, 4), 5);
        // Through the sign's byte too.
        due("feed(8)", x.feed(8, 0x2966656463626128L), 8);
        due("turn()", x.turn(), 1);
        due("goes(2, 5)", x.goes(2, 5), 0);
    }

    private static void readTurns() {
        promise = 3;
        TurnedInSix x = new TurnedInSix();
        due("turn() of nothing", x.turn(), -20);
        String[] texts = {"(", "()", "(a", "(a)", "(ab", "(aa)", "(ag)", "(a`)", "(A)", "ab)", "(ab)c", "(ab))", "(ab)(",
            "(ab)(c)", "(ab)(cb)", "(a(b)", "(abcdefa)", "(ab) ", "((ab)", "(ab)(cd)(ef)(", "(ab)(cd)(ef)(a", ")",
            "(ab)(cd)(ef)xxxx", "(ab)(cd)(", "(abcdefg)", "(a1)", "(ab)'"};
        int[] faults = {1, 1, 2, 2, 3, 2, 2, 2, 1, 0, 4, 4, 5, 6, 6, 2, 7, 4, 1, 13, 13, 0, 12, 9, 7, 2, 4};
        for (int i = 0; i < texts.length; i++) {
            due("turn() of " + texts[i], turn(x, texts[i]), -20 - faults[i]);
            due("count(6) behind it", x.count(6), 0);
        }
        refused(x, -6, 0);
        due("count(0)", x.count(0), 0);
        due("turn() of (ab)(cd)(ef)", turn(x, "(ab)(cd)(ef)"), 0);
        due("turn() of (fedcba)", turn(x, "(fedcba)"), 1);
        for (int i = 2; i < 6; i++) {
            due("turn() of (ab)", turn(x, "(ab)"), i);
        }
        due("a seventh turn()", turn(x, "(ab)"), -6);
        due("count(6), the tape stays", x.count(6), 4);
        due("turn() again", x.turn(), -6);
        refused(x, -6, 2);
        due("count(0)", x.count(0), 6);
        due("row() of that tape", x.row(), -20);
        due("count(6)", x.count(6), 0);
        due("turn() of nothing, no room", x.turn(), -6);
    }

    private static void readRows() {
        promise = 4;
        TurnedInSix x = new TurnedInSix();
        due("row() without turns", row(x, "0"), -20);
        turn(x, "(ab)");
        turn(x, "(bc)");
        due("row() of nothing", x.row(), -20);
        String[] texts = {"2", "'", "0''", "02", "0 ", "0'/", "01010101'0", "000000000", "00000000''", "0a", "9", "0:",
            "00000000x", "0'0'0'0'0'0'0'00"};
        int[] faults = {0, 0, 2, 1, 1, 2, 9, 8, 9, 1, 0, 1, 8, 15};
        for (int i = 0; i < texts.length; i++) {
            due("row() of " + texts[i], row(x, texts[i]), -20 - faults[i]);
            due("count(6) behind it", x.count(6), 0);
        }
        due("count(1)", x.count(1), 0);
        due("row() of 16 bytes", row(x, "0'1'0'1'0'1'0'1'"), 0);
        due("rowOf(0, -1)", x.rowOf(0, -1), 8);
        due("rowOf(0, 7)", x.rowOf(0, 7), 3);
        due("row() of 8 moves", row(x, "01010101'"), 1);
        due("rowOf(1, 6)", x.rowOf(1, 6), 0);
        due("rowOf(1, 7)", x.rowOf(1, 7), 3);
        for (int i = 2; i < 10; i++) {
            due("row()", row(x, "1"), i);
        }
        due("an eleventh row()", row(x, "10"), -6);
        due("count(6), the tape stays", x.count(6), 2);
        refused(x, -6, 1);
        due("turn() of that tape", x.turn(), -20);
        due("count(1)", x.count(1), 10);
        due("row() of a turn that came later", rowOfLaterTurn(), 0);
    }

    private static int rowOfLaterTurn() {
        TurnedInSix x = new TurnedInSix();
        for (int i = 0; i < 6; i++) {
            due("row() of a digit without turn", row(x, "" + i), -20);
            turn(x, "(ab)");
        }
        due("row() of 6", row(x, "6"), -20);
        return row(x, "5");
    }

    private static void goals() {
        promise = 5;
        TurnedInSix x = new TurnedInSix();
        turn(x, "(ace)(bd)");
        int[] forth = {2, 3, 4, 1, 0, 5};
        for (int place = 0; place < 6; place++) {
            due("goes(0, " + place + ")", x.goes(0, place), forth[place]);
            due("goes(1, " + forth[place] + ")", x.goes(1, forth[place]), place);
        }
        due("goes(2, 0)", x.goes(2, 0), -1);
        due("goes(-1, 0)", x.goes(-1, 0), -1);
        due("goes(0, 6)", x.goes(0, 6), -1);
        due("goes(0, -1)", x.goes(0, -1), -1);
        due("goes(min, max)", x.goes(Integer.MIN_VALUE, Integer.MAX_VALUE), -1);
        refused(x, -1, 5);
    }

    private static void rowsTold() {
        TurnedInSix x = two();
        promise = 6;
        due("rowOf(2, -1)", x.rowOf(2, -1), 3);
        due("rowOf(2, 0)", x.rowOf(2, 0), 1);
        due("rowOf(2, 1)", x.rowOf(2, 1), 3);
        due("rowOf(2, 2)", x.rowOf(2, 2), 2);
        due("rowOf(2, 3)", x.rowOf(2, 3), -9);
        due("rowOf(2, -2)", x.rowOf(2, -2), -9);
        due("rowOf(2, min)", x.rowOf(2, Integer.MIN_VALUE), -9);
        due("rowOf(3, 8)", x.rowOf(3, 8), -9);
        due("rowOf(4, -1)", x.rowOf(4, -1), -1);
        due("rowOf(-1, 0)", x.rowOf(-1, 0), -1);
        promise = 7;
        // (abc) and then (cdef): a to b, b to c to d, c to a, d to e, e to f, f to c.
        int[] goal = {1, 3, 0, 4, 5, 2};
        for (int place = 0; place < 6; place++) {
            due("does(0, " + place + ")", x.does(0, place), goal[place]);
            due("does(1, " + place + ")", x.does(1, place), place);
        }
        due("does(4, 0)", x.does(4, 0), -1);
        due("does(-1, 0)", x.does(-1, 0), -1);
        due("does(0, 6)", x.does(0, 6), -1);
        due("does(0, -1)", x.does(0, -1), -1);
        promise = 8;
        due("order(0)", x.order(0), 6);
        due("order(1)", x.order(1), 1);
        due("order(2)", x.order(2), 3);
        due("order(3)", x.order(3), 3);
        due("order(4)", x.order(4), -1);
        TurnedInSix y = with(new String[] {"(ab)(cde)", "(abcde)", "(ab)(cdef)"}, new String[] {"0", "1", "2"});
        due("order of 2 and 3", y.order(0), 6);
        due("order of 5", y.order(1), 5);
        due("order of 2 and 4", y.order(2), 4);
        promise = 9;
        due("keeps(0)", x.keeps(0), 0);
        due("keeps(1)", x.keeps(1), 63);
        due("keeps(2)", x.keeps(2), 56);
        due("keeps(3)", x.keeps(3), 56);
        due("keeps(-1)", x.keeps(-1), -1);
        due("keeps, one place", y.keeps(1), 32);
        refused(x, -1, 8);
    }

    private static void now() {
        TurnedInSix x = two();
        promise = 11;
        due("make(0)", x.make(0), 0);
        promise = 10;
        int[] pieces = {2, 0, 1, 3, 4, 5};
        for (int place = 0; place < 6; place++) {
            due("now(" + place + ")", x.now(place), pieces[place]);
        }
        due("now(6)", x.now(6), -1);
        due("now(-1)", x.now(-1), -1);
        promise = 11;
        due("make(4)", x.make(4), -1);
        due("make(-1)", x.make(-1), -1);
        due("make(1)", x.make(1), 1);
        due("make(3)", x.make(3), 0);
        due("now(2)", x.now(2), 3);
        due("make(2)", x.make(2), 1);
        promise = 12;
        due("makeRow(0)", x.makeRow(0), 0);
        for (int place = 0; place < 6; place++) {
            due("now at does(0, " + place + ")", x.now(x.does(0, place)), place);
        }
        for (int i = 2; i <= 6; i++) {
            due("makeRow(0), time " + i, x.makeRow(0), i == 6 ? 1 : 0);
        }
        due("makeRow(1)", x.makeRow(1), 1);
        due("makeRow(4)", x.makeRow(4), -1);
        due("makeRow(-1)", x.makeRow(-1), -1);
        promise = 13;
        due("put(-1)", x.put(-1), -4);
        due("put(720)", x.put(720), -6);
        due("put(719)", x.put(719), 0);
        for (int place = 0; place < 6; place++) {
            due("now(" + place + ")", x.now(place), 5 - place);
        }
        // 153 = 1 * 120 + 1 * 24 + 1 * 6 + 1 * 2 + 1: b, c, ... each the second that is left.
        x.put(153);
        int[] seconds = {1, 2, 3, 4, 5, 0};
        for (int place = 0; place < 6; place++) {
            due("now(" + place + ")", x.now(place), seconds[place]);
        }
        due("put(0)", x.put(0), 1);
        due("now(5)", x.now(5), 5);
        refused(x, -1, 6);
        refused(x, -4, 1);
        refused(x, -6, 1);
    }

    private static void hand() {
        TurnedInSix x = two();
        promise = 14;
        due("time(0, 0, 99)", x.time(0, 0, 99), 10);
        due("time(0, 0, 1)", x.time(0, 0, 1), 99);
        due("time(0, 1, 99)", x.time(0, 1, 99), 0);
        due("time(0, 1, 0)", x.time(0, 1, 0), 99);
        due("time(1, 0, 10)", x.time(1, 0, 10), 10);
        due("time(2, 2, 0)", x.time(2, 2, 0), -1);
        due("time(-1, 0, 1)", x.time(-1, 0, 1), -1);
        due("time(0, 2, 0)", x.time(0, 2, 0), -2);
        due("time(0, -1, 0)", x.time(0, -1, 0), -2);
        due("time(0, 0, 0)", x.time(0, 0, 0), -4);
        due("time(0, 1, -1)", x.time(0, 1, -1), -4);
        due("time(0, 0, 100)", x.time(0, 0, 100), -6);
        due("time(0, 1, 100)", x.time(0, 1, 100), -6);
        due("time(0, 0, 1)", x.time(0, 0, 1), 1);
        refused(x, -1, 2);
        refused(x, -2, 2);
        refused(x, -4, 2);
        refused(x, -6, 2);
        promise = 15;
        due("after(0, 1, -9)", x.after(0, 1, -9), 0);
        due("after(1, 0, 99)", x.after(1, 0, 99), 0);
        due("after(0, 1, 4)", x.after(0, 1, 4), -9);
        due("after(2, 0, 100)", x.after(2, 0, 100), 1000000001);
        due("after(0, 2, 100)", x.after(0, 2, 100), 1000000001);
        due("after(-1, 0, 0)", x.after(-1, 0, 0), 1000000001);
        due("after(0, -1, 0)", x.after(0, -1, 0), 1000000001);
        due("after(0, 1, -10)", x.after(0, 1, -10), 1000000004);
        due("after(0, 1, 100)", x.after(0, 1, 100), 1000000006);
        due("after(0, 1, 0)", x.after(0, 1, 0), 4);
        due("after(1, 0, 0)", x.after(1, 0, 0), 99);
        due("after(1, 1, 0)", x.after(1, 1, 0), 0);
        refused(x, -1, 6);
        refused(x, -4, 3);
        refused(x, -6, 3);
    }

    private static void kindsAndTimes() {
        TurnedInSix x = two();
        row(x, "0'001'1");
        x.time(0, 0, 20);
        x.time(0, 1, 7);
        x.time(1, 1, 3);
        promise = 17;
        due("kind(0, 1)", x.kind(0, 1), 0);
        x.after(0, 1, -1);
        due("kind(0, 1) flowing", x.kind(0, 1), 1);
        x.after(0, 1, 1);
        due("kind(0, 1) regripped", x.kind(0, 1), 2);
        due("kind(0, 0)", x.kind(0, 0), 0);
        due("kind(0, 2)", x.kind(0, 2), -9);
        due("kind(0, -1)", x.kind(0, -1), -9);
        due("kind(5, 0)", x.kind(5, 0), -1);
        due("kind(-1, -1)", x.kind(-1, -1), -1);
        x.after(0, 0, -5);
        x.after(1, 1, 99);
        int[] kinds = {0, 3, 1, 2, 3};
        for (int i = 0; i < 5; i++) {
            due("kind(4, " + i + ")", x.kind(4, i), kinds[i]);
        }
        promise = 18;
        // 27, 20 - 5, 20 - 5, 10 + 3 + 1, 10 + 99
        due("seconds(4)", x.seconds(4), 180);
        due("seconds(0)", x.seconds(0), 31);
        x.after(0, 0, -9);
        x.time(0, 0, 5);
        x.time(0, 1, 0);
        // each behind the first takes 1 at least
        due("seconds(3)", x.seconds(3), 12);
        x.time(0, 0, 9);
        due("seconds(3)", x.seconds(3), 16);
        x.time(0, 0, 10);
        due("seconds(3)", x.seconds(3), 17);
        x.time(0, 0, 11);
        due("seconds(3)", x.seconds(3), 25);
        // BACK counts ahead of the 1 at least
        x.time(0, 0, 1);
        x.time(0, 1, 9);
        due("seconds(1)", x.seconds(1), 2);
        due("seconds(5)", x.seconds(5), -1);
        due("seconds(-1)", x.seconds(-1), -1);
        refused(x, -1, 4);
    }

    private static void locks() {
        TurnedInSix x = two();
        promise = 16;
        due("locks(0, 100)", x.locks(0, 100), 0);
        due("locks(0, 0)", x.locks(0, 0), 100);
        due("locks(1, 99)", x.locks(1, 99), 20);
        due("locks(1, 0)", x.locks(1, 0), 99);
        due("locks(2, -1)", x.locks(2, -1), -2);
        due("locks(-1, 0)", x.locks(-1, 0), -2);
        due("locks(0, -1)", x.locks(0, -1), -4);
        due("locks(1, -1)", x.locks(1, -1), -4);
        due("locks(0, 101)", x.locks(0, 101), -6);
        due("locks(1, 100)", x.locks(1, 100), -6);
        due("locks(0, 30)", x.locks(0, 30), 0);
        due("locks(1, 7)", x.locks(1, 7), 0);
        promise = 19;
        due("mean(2)", x.mean(2), 3000 + 3 * 30 * 7);
        due("mean(3)", x.mean(3), 8000 + 8 * 30 * 7);
        due("mean(4)", x.mean(4), -1);
        due("mean(-1)", x.mean(-1), -1);
        promise = 20;
        int[] seeds = {0, 1, -1, 7, 12345, Integer.MIN_VALUE, Integer.MAX_VALUE, -987654321};
        for (int seed : seeds) {
            for (int most = 0; most <= 100; most += 25) {
                x.locks(0, most);
                due("drawn(3, " + seed + ") of " + most, x.drawn(3, seed), 80 + 7 * drawnLocks(8, seed, most));
            }
        }
        due("drawn(4, 0)", x.drawn(4, 0), -1);
        due("drawn(-1, 0)", x.drawn(-1, 0), -1);
        refused(x, -1, 4);
        refused(x, -2, 2);
        refused(x, -4, 2);
        refused(x, -6, 2);
    }

    private static int drawnLocks(int moves, int seed, int most) {
        long z = seed;
        int all = 0;
        for (int i = 0; i < moves; i++) {
            z = (z * 1664525L + 1013904223L) % (1L << 32);
            long bare = (z + (1L << 32)) % (1L << 31);
            if (bare / 256 % 100 < most) {
                all++;
            }
        }
        return all;
    }

    private static void better() {
        promise = 21;
        TurnedInSix x = with(new String[] {"(abc)", "(bcd)", "(acb)"}, new String[] {"00", "0'0", "01", "010101", "00'1"});
        due("better(5, 0)", x.better(5, 0), -1);
        due("better(-1, 1)", x.better(-1, 1), -1);
        due("better(0, 0)", x.better(0, 0), -4);
        due("better(0, 6)", x.better(0, 6), -6);
        refused(x, -1, 2);
        refused(x, -4, 1);
        refused(x, -6, 1);
        // 00 is 0' and is 2, of equal ones the first by MOVES
        due("better(0, 2)", x.better(0, 2), 10);
        promise = 22;
        due("found(-1)", x.found(-1), 1);
        due("found(0)", x.found(0), 1);
        due("found(1)", x.found(1), -9);
        due("found(-2)", x.found(-2), -9);
        due("found(max)", x.found(Integer.MAX_VALUE), -9);
        promise = 21;
        x.time(0, 1, 1);
        due("better(0, 1), 2 is quicker than 0'", x.better(0, 1), 10);
        due("found(0)", x.found(0), 4);
        x.after(0, 0, -9);
        x.time(0, 0, 5);
        x.time(0, 1, 20);
        // 0 and 0 take 5 and 1
        due("better(0, 5)", x.better(0, 5), 6);
        due("found(-1)", x.found(-1), 2);
        due("found(1)", x.found(1), 0);
        x.time(2, 0, 6);
        due("better(0, 5), as quick with fewer", x.better(0, 5), 6);
        due("found(-1)", x.found(-1), 1);
        due("found(0)", x.found(0), 4);
        // nothing at all needs MOVES too: 0 0 0 (5 1 1), not 0 and 2 (5 and 6)
        due("better(1, 5)", x.better(1, 5), 7);
        due("found(-1)", x.found(-1), 3);
        due("better(1, 2)", x.better(1, 2), 11);
        due("found(1)", x.found(1), 4);
        due("better(1, 1), nothing", x.better(1, 1), -3);
        due("found stays", x.found(-1), 2);
        due("better(2, 1)", x.better(2, 1), -3);
        refused(x, -3, 2);
        due("better(2, 2)", x.better(2, 2), 15);
        due("better(3, 5)", x.better(3, 5) > 0 ? 1 : 0, 1);
        promise = 22;
        int length = x.found(-1);
        for (int i = 0; i < length; i++) {
            x.make(x.found(i));
        }
        for (int place = 0; place < 6; place++) {
            due("FOUND does the same", x.now(x.does(3, place)), place);
        }
        due("found(5)", x.found(5), -9);
    }

    private static void fewest() {
        TurnedInSix x = with(new String[] {"(ab)", "(bc)", "(cd)", "(de)", "(ef)"}, new String[] {});
        promise = 23;
        due("fewest()", x.fewest(), 0);
        promise = 24;
        due("first()", x.first(), -9);
        x.put(719);
        promise = 23;
        due("fewest() of 15", x.fewest(), 15);
        promise = 24;
        due("first()", x.first(), 0);
        x.put(1);
        promise = 23;
        due("fewest() of 1", x.fewest(), 1);
        promise = 24;
        due("first()", x.first(), 8);
        // as many inversions as MOVES
        for (int order = 0; order < 720; order += 43) {
            x = with(new String[] {"(ab)", "(bc)", "(cd)", "(de)", "(ef)"}, new String[] {});
            x.put(order);
            int inversions = 0;
            int first = -9;
            for (int one = 0; one < 6; one++) {
                for (int other = one + 1; other < 6; other++) {
                    inversions += x.now(one) > x.now(other) ? 1 : 0;
                }
                if (first == -9 && one < 5 && x.now(one) > x.now(one + 1)) {
                    first = 2 * one;
                }
            }
            promise = 23;
            due("fewest() of " + order, x.fewest(), inversions);
            promise = 24;
            due("first() of " + order, x.first(), first);
        }
        TurnedInSix y = with(new String[] {"(abcd)"}, new String[] {});
        promise = 24;
        y.make(0);
        due("first() is back", y.first(), 1);
        y.make(0);
        due("first() of two ways", y.first(), 0);
        promise = 23;
        due("fewest()", y.fewest(), 2);
        y.put(1);
        due("fewest() of what can not be", y.fewest(), -9);
        promise = 24;
        due("first()", y.first(), -9);
        turn(y, "(ef)");
        promise = 23;
        due("fewest() with the turn that came", y.fewest(), 1);
        promise = 24;
        due("first()", y.first(), 2);
    }

    /** Steps: a at its own by 0, 1; b too by 1, 2, 3; rows 0 "0", 1 "01", 2 "1", 3 "10". */
    private static TurnedInSix way() {
        TurnedInSix x = with(new String[] {"(ab)", "(bc)"}, new String[] {"0", "10", "1", "01"});
        x.step(1, 3);
        x.step(2, 14);
        return x;
    }

    private static void triesOfAWay() {
        promise = 25;
        TurnedInSix x = new TurnedInSix();
        due("step(-1, 0)", x.step(-1, 0), -1);
        due("step(64, 0)", x.step(64, 0), -1);
        due("step(0, -1)", x.step(0, -1), -1);
        due("step(0, 1024)", x.step(0, 1024), -1);
        due("step(63, 1023)", x.step(63, 1023), 0);
        due("step(0, 0)", x.step(0, 0), 1);
        due("step(1, 0)", x.step(1, 0), 2);
        due("step(1, 0)", x.step(1, 0), 3);
        due("step(1, 0)", x.step(1, 0), -6);
        due("step(64, 0)", x.step(64, 0), -1);
        refused(x, -1, 5);
        refused(x, -6, 1);
        due("count(2)", x.count(2), 4);
        x = way();
        promise = 26;
        due("tried() of SOLVED", x.tried(), -9);
        promise = 27;
        due("triedRow(0)", x.triedRow(0), -9);
        due("triedRow(2)", x.triedRow(2), -1);
        due("triedRow(-1)", x.triedRow(-1), -1);
        // the piece a at place b: row 0 is the first that is DONE behind it
        x.make(0);
        due("triedRow(0)", x.triedRow(0), 0);
        due("triedRow(1)", x.triedRow(1), -9);
        due("now(0), tries change nothing", x.now(0), 1);
        // b c a, of which row 0 would not bring a home, but row 1 all three
        x.put(0);
        x.makeRow(1);
        x.makeRow(1);
        due("now(1)", x.now(1), 2);
        due("triedRow(0)", x.triedRow(0), 1);
        due("triedRow(1)", x.triedRow(1), -9);
        x.put(0);
        x.make(2);
        due("triedRow(0)", x.triedRow(0), -9);
        due("triedRow(1)", x.triedRow(1), 2);
        // a at d: none brings it home
        x.put(719);
        promise = 26;
        due("tried() STUCK at 0", x.tried(), 0);
        promise = 27;
        due("triedRow(0)", x.triedRow(0), -9);
        due("triedRow(1), came not so far", x.triedRow(1), -9);
        promise = 26;
        // a at b, b at f: STEP 0 is made, STEP 1 is STUCK
        x.put(0);
        turn(x, "(bf)");
        x.make(4);
        x.make(0);
        due("tried() STUCK at 1", x.tried(), 1);
        promise = 27;
        due("triedRow(0)", x.triedRow(0), 0);
        due("triedRow(1)", x.triedRow(1), -9);
        promise = 26;
        // a row that comes has its bit from then on
        TurnedInSix y = with(new String[] {"(ab)"}, new String[] {});
        y.step(3, 1);
        y.make(0);
        due("tried() without rows", y.tried(), 0);
        row(y, "0");
        due("tried() with the row that came", y.tried(), -9);
        // PLACES of STEPS ahead must stay DONE
        TurnedInSix z = with(new String[] {"(ab)", "(bc)", "(abc)"}, new String[] {"0", "1"});
        z.step(4, 1);
        z.step(1, 3);
        z.put(0);
        z.make(0);
        due("tried()", z.tried(), -9);
        due("triedRow(1)", z.triedRow(1), 0);
        z.put(0);
        z.make(2);
        due("tried(), c is not at its own", z.tried(), 0);
        due("tried() without steps", new TurnedInSix().tried(), -9);
    }

    private static void allTries() {
        TurnedInSix x = way();
        promise = 28;
        due("solves()", x.solves(), naiveSolves(false));
        promise = 29;
        due("lacks()", x.lacks(), naiveSolves(true));
        promise = 28;
        due("solves() changes nothing", x.now(0), 0);
        TurnedInSix none = new TurnedInSix();
        due("solves() without steps", none.solves(), 1);
        promise = 29;
        due("lacks() without steps", none.lacks(), 1);
        none.step(63, 0);
        due("lacks(), STUCK", none.lacks(), 1);
        promise = 30;
        due("luck(0, 0)", x.luck(0, 0), 1);
        due("luck(0, 1)", x.luck(0, 1), 6);
        due("luck(1, 0) + 100 luck(1, 1)", x.luck(1, 0) + 100 * x.luck(1, 1), 501);
        due("luck(2, 2)", x.luck(2, 2), -1);
        due("luck(-1, 0)", x.luck(-1, 0), -1);
        due("luck(0, 2)", x.luck(0, 2), -2);
        due("luck(0, -1)", x.luck(0, -1), -2);
        refused(x, -1, 2);
        refused(x, -2, 2);
        TurnedInSix all = new TurnedInSix();
        all.step(0, 0);
        due("luck(0, 0), all", all.luck(0, 0), 1);
        due("luck(0, 1), all", all.luck(0, 1), 1);
        all.step(63, 0);
        due("luck(1, 0)", all.luck(1, 0), 1);
        due("luck(1, 1)", all.luck(1, 1), 720);
        all.step(0, 0);
        due("luck(2, 0) of the one that comes", all.luck(2, 0), 1);
        due("luck(2, 1)", all.luck(2, 1), 1);
        unluckyWays();
        fullWay();
    }

    /** A way that is STUCK at its first step from some: those do not come to the second. */
    private static void unluckyWays() {
        promise = 30;
        TurnedInSix x = with(new String[] {"(abc)"}, new String[] {"0", "0'", "00'"});
        x.step(1, 7);
        x.step(6, 7);
        // a comes home from a, b, c: 360 come; b and c are at their own in 3 * 6 of them
        due("luck(1, 0)", x.luck(1, 0), 1);
        due("luck(1, 1)", x.luck(1, 1), 20);
    }

    /** A way whose one step brings a home from each place, and one that solves only by its second step. */
    private static void fullWay() {
        promise = 28;
        TurnedInSix x = with(new String[] {"(abcdef)", "(ab)"},
            new String[] {"0", "00", "000", "0000", "00000", "1", "0'1", "001", "0001"});
        x.step(1, 31);
        due("solves() of one step", x.solves(), 6);
        promise = 29;
        due("lacks() of one step", x.lacks(), 1);
        TurnedInSix y = with(new String[] {"(ef)"}, new String[] {"0"});
        y.step(15, 0);
        y.step(63, 1);
        promise = 28;
        due("solves()", y.solves(), 2);
        promise = 29;
        due("lacks()", y.lacks(), 2);
    }

    /** SOLVES or LACKS of way() by put(), tried() and the rows that were made, each order on an object of its own. */
    private static int naiveSolves(boolean lacks) {
        int solved = 0;
        for (int order = 0; order < 720; order++) {
            TurnedInSix y = way();
            y.put(order);
            boolean ends = y.tried() == -9;
            int[] made = {y.triedRow(0), y.triedRow(1)};
            for (int row : made) {
                if (row >= 0) {
                    y.makeRow(row);
                }
            }
            ends = ends && y.count(3) == 6;
            if (ends) {
                solved++;
            } else if (lacks) {
                return order;
            }
        }
        return lacks ? -9 : solved;
    }

    private static void eyes() {
        TurnedInSix x = way();
        promise = 31;
        due("see(0, 99)", x.see(0, 99), 0);
        due("see(0, 0)", x.see(0, 0), 99);
        due("see(1, 15)", x.see(1, 15), 0);
        due("see(1, 15)", x.see(1, 15), 15);
        due("see(2, 100)", x.see(2, 100), -1);
        due("see(-1, 0)", x.see(-1, 0), -1);
        due("see(0, -1)", x.see(0, -1), -4);
        due("see(0, 100)", x.see(0, 100), -6);
        refused(x, -1, 2);
        refused(x, -4, 1);
        refused(x, -6, 1);
        promise = 32;
        due("sum(49)", x.sum(49), -4);
        due("sum(301)", x.sum(301), -6);
        due("sum(300) of SOLVED", x.sum(300), 15);
        x.see(0, 99);
        due("sum(100), none waits ahead of the first", x.sum(100), 15);
        x.make(0);
        x.time(0, 0, 11);
        // row 0 takes 11 times 0.5, cut: 5; then 15 - 5 wait
        due("sum(50)", x.sum(50), 15);
        due("sum(149)", x.sum(149), 16);
        due("sum(100)", x.sum(100), 15);
        due("sum(300)", x.sum(300), 33);
        promise = 33;
        // at 140 it takes 15, at 150 16
        due("bestPace(), the greatest of the least", x.bestPace(), 140);
        x.see(1, 0);
        due("bestPace()", x.bestPace(), 50);
        x.put(719);
        due("bestPace(), STUCK", x.bestPace(), -9);
        promise = 32;
        due("sum(100), STUCK", x.sum(100), -9);
        due("sum(49), STUCK", x.sum(49), -4);
        refused(x, -4, 3);
        refused(x, -6, 2);
        TurnedInSix y = new TurnedInSix();
        due("sum(100) without steps", y.sum(100), 0);
        y.put(5);
        due("sum(100) not SOLVED", y.sum(100), 0);
        promise = 33;
        due("bestPace() without steps", y.bestPace(), 300);
        waits();
    }

    /** Two steps that need rows, and one behind them that needs none: it still waits. */
    private static void waits() {
        TurnedInSix x = way();
        x.step(4, 0);
        x.see(1, 40);
        x.see(2, 33);
        // a at b, b at c, c at a: row 0 brings a home, row 2 the others
        x.put(0);
        x.make(2);
        x.make(0);
        int first = x.triedRow(0);
        int second = x.triedRow(1);
        promise = 27;
        due("triedRow(0)", first, 0);
        due("triedRow(1)", second, 2);
        promise = 32;
        // 10 + 30 + 10 + 23
        due("sum(100)", x.sum(100), 73);
        due("sum(250)", x.sum(250), 25 + 15 + 25 + 8);
        promise = 33;
        due("bestPace(), all are equal", x.bestPace(), 300);
    }

    private static void learn() {
        promise = 34;
        TurnedInSix x = with(new String[] {"(ab)", "(bc)", "(cd)"}, new String[] {"2", "0", "0", "010"});
        x.step(63, 1);
        due("solves()", x.solves(), 2);
        due("learn(0), of several the least", x.learn(0), 1);
        due("solves() as it was", x.solves(), 2);
        due("learn(1)", x.learn(1), -1);
        due("learn(-1)", x.learn(-1), -1);
        refused(x, -1, 2);
        TurnedInSix y = with(new String[] {"(ab)", "(bc)"}, new String[] {"0", "00", "1", "010"});
        y.step(1, 1);
        y.step(63, 4);
        // rows 0 and 010 bring a home; rows 1 and 010 then the others
        due("solves()", y.solves(), 4);
        due("learn(0)", y.learn(0), 3);
        due("learn(1), none makes it more", y.learn(1), -9);
        TurnedInSix all = with(new String[] {"(ab)"}, new String[] {"0"});
        all.step(63, 1023);
        due("learn(0), all its own", all.learn(0), -9);
        due("learn(0) without rows", withoutRows(), -9);
    }

    private static int withoutRows() {
        TurnedInSix x = new TurnedInSix();
        x.step(63, 0);
        return x.learn(0);
    }

    private static void five() {
        promise = 35;
        TurnedInSix x = new TurnedInSix();
        due("five(0)", x.five(0), -4);
        due("five(10000)", x.five(10000), -6);
        due("five(9999)", x.five(9999), 1);
        due("five(1)", x.five(1), 2);
        due("five(50)", x.five(50), 3);
        promise = 37;
        due("need(50) of three", x.need(50), -3);
        promise = 36;
        due("middle(0) of three", x.middle(0), -3);
        due("middle(2) of three", x.middle(2), -2);
        promise = 35;
        due("five(60)", x.five(60), 4);
        promise = 37;
        due("need(0)", x.need(0), -4);
        due("need(10000)", x.need(10000), -6);
        // 1, 50, 60, 9999: the sum is 110 and the fifth
        due("need(36)", x.need(36), -9);
        due("need(37)", x.need(37), 1);
        due("need(38)", x.need(38), 4);
        due("need(3370)", x.need(3370), 9999);
        due("need(3369)", x.need(3369), 9997);
        due("need(9999)", x.need(9999), 9999);
        promise = 36;
        due("middle(0) of four", x.middle(0), -3);
        promise = 35;
        due("five(53)", x.five(53), 5);
        due("five(53)", x.five(53), -6);
        due("five(0), full", x.five(0), -4);
        promise = 37;
        due("need(37) of five", x.need(37), -3);
        due("need(0) of five", x.need(0), -4);
        promise = 36;
        due("middle(0)", x.middle(0), 163);
        due("middle(-1)", x.middle(-1), -2);
        due("count(4), they stay", x.count(4), 5);
        due("middle(1)", x.middle(1), 3);
        due("count(4), they are none", x.count(4), 0);
        due("middle(1)", x.middle(1), -3);
        refused(x, -2, 2);
        refused(x, -3, 5);
        int[] times = {10, 30, 20, 30, 40};
        for (int v : times) {
            x.five(v);
        }
        due("middle(0), in least terms", x.middle(0), 80);
        due("middle(1)", x.middle(1), 3);
        int[] others = {40, 10, 30, 20, 10};
        for (int v : others) {
            x.five(v);
        }
        due("middle(0)", x.middle(0), 20);
        due("middle(1)", x.middle(1), 1);
        needs();
    }

    /** NEED as it is told: by trying each fifth. */
    private static void needs() {
        promise = 37;
        int[][] fours = {{5, 5, 5, 5}, {1, 1, 1, 1}, {9999, 9999, 9999, 9999}, {3, 8, 2, 6}, {100, 90, 80, 110}, {7, 1, 7, 12}};
        for (int[] four : fours) {
            TurnedInSix x = new TurnedInSix();
            for (int v : four) {
                x.five(v);
            }
            for (int most = 1; most <= 120; most++) {
                int want = -9;
                for (int fifth = 1; fifth <= 9999; fifth++) {
                    int least = fifth;
                    int greatest = fifth;
                    int all = fifth;
                    for (int v : four) {
                        least = Math.min(least, v);
                        greatest = Math.max(greatest, v);
                        all += v;
                    }
                    want = all - least - greatest <= 3 * most ? fifth : want;
                }
                due("need(" + most + ")", x.need(most), want);
            }
        }
    }

    private static void films() {
        TurnedInSix x = two();
        x.time(0, 1, 5);
        x.after(1, 1, -4);
        // ROW 2, 0'1'1: 15, 10, 6
        promise = 38;
        due("film(-1)", x.film(-1), -4);
        due("film(128)", x.film(128), -6);
        promise = 39;
        due("held(2, 0) of nothing", x.held(2, 0), 0);
        promise = 38;
        due("film(15)", x.film(15), 1);
        promise = 39;
        due("held(2, 0), too short", x.held(2, 0), 1);
        promise = 38;
        due("film(12)", x.film(12), 2);
        due("film(16)", x.film(16), 3);
        promise = 39;
        due("held(2, 0)", x.held(2, 0), 1);
        due("held(2, 1)", x.held(2, 1), 1);
        due("held(2, 2)", x.held(2, 2), 2);
        due("held(2, 9)", x.held(2, 9), 2);
        due("held(2, 10)", x.held(2, 10), -9);
        due("held(2, 99)", x.held(2, 99), -9);
        due("held(0, 10), too long", x.held(0, 10), 99);
        due("held(0, 1), held up ahead of that", x.held(0, 1), 0);
        due("held(3, 99), too short", x.held(3, 99), 3);
        due("held(4, 100)", x.held(4, 100), -1);
        due("held(-1, 0)", x.held(-1, 0), -1);
        due("held(2, -1)", x.held(2, -1), -4);
        due("held(2, 100)", x.held(2, 100), -6);
        due("count(5), the film stays", x.count(5), 3);
        promise = 40;
        due("heldUp(4)", x.heldUp(4), -1);
        due("heldUp(-1)", x.heldUp(-1), -1);
        due("count(5), it stays", x.count(5), 3);
        due("heldUp(2)", x.heldUp(2), 12);
        due("count(5)", x.count(5), 0);
        due("heldUp(2) of nothing", x.heldUp(2), 0);
        x.film(3);
        x.film(13);
        x.film(127);
        x.film(0);
        // ROW 0, 01: 10, 10; what is less than its time gives nothing back
        due("heldUp(0), bytes beyond it whole", x.heldUp(0), 3 + 127);
        promise = 38;
        for (int i = 1; i <= 8; i++) {
            due("film(127)", x.film(127), i);
        }
        due("a ninth film(0)", x.film(0), -6);
        due("a ninth film(-1)", x.film(-1), -4);
        refused(x, -1, 4);
        refused(x, -4, 3);
        refused(x, -6, 3);
        promise = 40;
        due("heldUp(3) of eight", x.heldUp(3), 8 * 117);
    }

    private static void image() {
        TurnedInSix x = two();
        promise = 42;
        due("on()", x.on(), -3);
        refused(x, -3, 1);
        x.step(3, 5);
        x.see(0, 44);
        x.time(1, 0, 33);
        x.time(0, 1, 8);
        x.after(0, 1, 6);
        x.locks(0, 12);
        x.locks(1, 13);
        x.put(77);
        x.five(9);
        x.film(1);
        x.better(0, 2);
        promise = 41;
        due("image()", x.image(), 4);
        due("count(5), it changes nothing", x.count(5), 1);
        turn(x, "(af)");
        row(x, "2");
        x.step(1, 1);
        x.see(0, 1);
        x.see(1, 2);
        x.time(1, 0, 3);
        x.time(0, 1, 9);
        x.time(2, 0, 44);
        x.after(0, 1, 7);
        x.after(2, 0, 7);
        x.after(1, 2, 8);
        x.locks(0, 1);
        x.locks(1, 2);
        x.put(5);
        x.five(10);
        x.film(2);
        x.better(1, 4);
        x.feed(2, 0);
        x.feed(0, 0);
        promise = 42;
        due("on()", x.on(), 4);
        due("count(0)", x.count(0), 2);
        due("count(1)", x.count(1), 4);
        due("count(2)", x.count(2), 1);
        due("now(0)", x.now(0), 0);
        due("now(1)", x.now(1), 4);
        due("time(1, 0, 33)", x.time(1, 0, 33), 33);
        due("time(0, 1, 8)", x.time(0, 1, 8), 8);
        due("after(0, 1, 6)", x.after(0, 1, 6), 6);
        due("locks(0, 12)", x.locks(0, 12), 12);
        due("locks(1, 13)", x.locks(1, 13), 13);
        due("see(0, 44)", x.see(0, 44), 44);
        due("see(1, 0)", x.see(1, 0), -1);
        due("goes(4, 0)", x.goes(4, 0), -1);
        due("seconds(4)", x.seconds(4), -1);
        due("count(6), the tape stays", x.count(6), 2);
        refused(x, -4, 1);
        due("count(4), times are not in it", x.count(4), 2);
        due("count(5), nor is the film", x.count(5), 2);
        due("found(-1), nor is FOUND", x.found(-1), 2);
        x.turn();
        afterOn(x);
        emptyImage();
    }

    /** What comes behind on() has what each new turn, row and step has at first. */
    private static void afterOn(TurnedInSix x) {
        due("turn() behind it", turn(x, "(ef)"), 2);
        due("goes(4, 0)", x.goes(4, 0), 0);
        due("time(2, 0, 1)", x.time(2, 0, 1), 10);
        due("after(2, 0, 1)", x.after(2, 0, 1), 0);
        due("after(1, 2, 1)", x.after(1, 2, 1), 0);
        due("step() behind it", x.step(1, 0), 1);
        due("see(1, 9)", x.see(1, 9), 0);
        x.put(1);
        due("fewest()", x.fewest(), 1);
        due("on() once more", x.on(), 4);
        x.put(1);
        due("fewest() without the turn", x.fewest() == 1 ? 1 : 0, 0);
        due("count(0)", x.count(0), 2);
        promise = 41;
        row(x, "10");
        due("image() takes the place of the other", x.image(), 5);
        promise = 42;
        x.put(0);
        due("on()", x.on(), 5);
        due("now(5)", x.now(5), 4);
        refused(x, -3, 1);
    }

    private static void emptyImage() {
        TurnedInSix x = new TurnedInSix();
        promise = 41;
        due("image() of nothing", x.image(), 0);
        turn(x, "(ab)");
        row(x, "0");
        x.make(0);
        promise = 42;
        due("on()", x.on(), 0);
        due("count(0)", x.count(0), 0);
        due("count(3)", x.count(3), 6);
        x.put(120);
        due("fewest() without turns", x.fewest(), -9);
        due("turn()", turn(x, "(ac)"), 0);
        due("goes(0, 0)", x.goes(0, 0), 2);
        due("row()", row(x, "0'"), 0);
        due("does(0, 0)", x.does(0, 0), 2);
    }

    private static void counts() {
        promise = 43;
        TurnedInSix x = way();
        int[] want = {2, 4, 2, 6, 0, 0, 0, -9, -9, -9, -9};
        for (int what = 0; what < want.length; what++) {
            due("count(" + what + ")", x.count(what), want[what]);
        }
        due("count(-1)", x.count(-1), -9);
        due("count(17)", x.count(17), -9);
        due("count(min)", x.count(Integer.MIN_VALUE), -9);
        due("count(max)", x.count(Integer.MAX_VALUE), -9);
        x.put(1);
        due("count(3)", x.count(3), 4);
        x.put(719);
        due("count(3)", x.count(3), 0);
        x.five(3);
        x.film(3);
        x.film(4);
        x.feed(3, 0);
        due("count(4)", x.count(4), 1);
        due("count(5)", x.count(5), 2);
        due("count(6)", x.count(6), 3);
        x.now(9);
        x.luck(0, 3);
        x.luck(0, 3);
        x.on();
        x.on();
        x.on();
        x.put(-1);
        x.put(-1);
        x.put(-1);
        x.put(-1);
        x.put(999);
        x.put(999);
        x.put(999);
        x.put(999);
        x.put(999);
        int[] refusals = {1, 2, 3, 4, 0, 5};
        for (int i = 0; i < 6; i++) {
            due("count(" + (11 + i) + ")", x.count(11 + i), refusals[i]);
        }
    }
}
