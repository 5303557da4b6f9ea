import java.math.BigInteger;
import java.util.ArrayList;
import java.util.Arrays;
import java.util.HashSet;
import java.util.List;
import java.util.Set;
import java.util.function.IntUnaryOperator;

// Each sentence of the document that names a boundary, by itself: says() tells the sentence, behind it stand the calls
// that would answer something else if it were broken. No object here is used for more than 512 calls.
public final class EdgeTest {
    private static final int MIN = Integer.MIN_VALUE;
    private static final int MAX = Integer.MAX_VALUE;
    private static int wrong = 0;
    private static int looked = 0;
    private static final Set<String> SENTENCES = new HashSet<>();
    private static String sentence = "";

    private static void says(int promise, String words) {
        sentence = "promise " + promise + ", \"" + words + "\"";
        SENTENCES.add(sentence);
    }

    private static void due(String call, long got, long want) {
        looked++;
        if (got != want) {
            wrong++;
            System.out.println(sentence + ": " + call + " answered " + got + ", due is " + want);
        }
    }

    public static void main(String[] args) {
        newObject();
        tape();
        tapeFull();
        ringsOfATurn();
        faultsOfATurn();
        turnsFull();
        movesOfARow();
        faultsOfARow();
        rowsFull();
        numbersTold();
        goesAndDoes();
        ordersAndKeeps();
        nowAndPut();
        times();
        afters();
        kinds();
        secondsAtLeastOne();
        locksAndMean();
        seedsOfDrawn();
        betterThan();
        foundStays();
        fewestAndFirst();
        stepsFull();
        doneAndStuck();
        solvesAndLacks();
        luck();
        see();
        paces();
        waits();
        bestPace();
        learn();
        fiveFull();
        middle();
        need();
        filmFull();
        held();
        heldUp();
        image();
        whatStaysOverOn();
        counts();
        lastCall();
        System.out.println(wrong == 0 ? looked + " answers to " + SENTENCES.size() + " sentences are as due" : wrong + " answers are not as due");
        if (wrong != 0) {
            System.exit(1);
        }
    }

    // ---- what the tests share ----

    /** Feeds a text in parts of 8 bytes. */
    private static void text(TurnedInSix x, String text) {
        for (int from = 0; from < text.length(); from += 8) {
            int to = Math.min(text.length(), from + 8);
            long bytes = 0;
            for (int i = to - 1; i >= from; i--) {
                bytes = bytes << 8 | text.charAt(i);
            }
            x.feed(to - from, bytes);
        }
    }

    private static int turn(TurnedInSix x, String text) {
        text(x, text);
        return x.turn();
    }

    private static int row(TurnedInSix x, String text) {
        text(x, text);
        return x.row();
    }

    /** An object with the turns and the rows of two texts, each told behind a space. */
    private static TurnedInSix with(String turns, String rows) {
        TurnedInSix x = new TurnedInSix();
        for (String text : turns.split(" ")) {
            if (!text.isEmpty()) {
                turn(x, text);
            }
        }
        for (String text : rows.split(" ")) {
            if (!text.isEmpty()) {
                row(x, text);
            }
        }
        return x;
    }

    /** How many REFUSALS -1 .. -6 there were. */
    private static void refusals(TurnedInSix x, int... often) {
        for (int i = 0; i < 6; i++) {
            due("count(" + (11 + i) + ")", x.count(11 + i), often[i]);
        }
    }

    /** A number at its least and its greatest, one and far below, one and far above. */
    private static void edges(String name, int least, int greatest, IntUnaryOperator call, int below, int above) {
        due(name + " of " + (least - 1), call.applyAsInt(least - 1), below);
        due(name + " of the least int", call.applyAsInt(MIN), below);
        due(name + " of " + (greatest + 1), call.applyAsInt(greatest + 1), above);
        due(name + " of the greatest int", call.applyAsInt(MAX), above);
        looked += 2;
        if (call.applyAsInt(least) < 0 || call.applyAsInt(greatest) < 0) {
            wrong++;
            System.out.println(sentence + ": " + name + " refused " + least + " or " + greatest);
        }
    }

    // ---- a new object, THE TAPE ----

    private static void newObject() {
        says(1, "No TURNS; SOLVED.");
        TurnedInSix x = new TurnedInSix();
        int[] counts = {0, 0, 0, 6, 0, 0, 0, -9, -9, -9, -9, 0, 0, 0, 0, 0, 0, -9};
        for (int what = 0; what < counts.length; what++) {
            due("count(" + what + ")", x.count(what), counts[what]);
        }
        for (int place = 0; place < 6; place++) {
            due("now(" + place + ")", x.now(place), place);
        }
        due("goes(0, 0)", x.goes(0, 0), -1);
        due("make(0)", x.make(0), -1);
        due("makeRow(0)", x.makeRow(0), -1);
        due("time(0, 0, 1)", x.time(0, 0, 1), -1);
        due("after(0, 0, 0)", x.after(0, 0, 0), 1000000001);
        due("seconds(0)", x.seconds(0), -1);
        due("triedRow(0)", x.triedRow(0), -1);
        due("fewest()", x.fewest(), 0);
        due("first()", x.first(), -9);
        due("found(-1)", x.found(-1), 0);
        due("turn() of an empty tape", x.turn(), -20);
        due("row() of an empty tape", x.row(), -20);
        refusals(x, 7, 0, 0, 0, 0, 0);
    }

    private static void tape() {
        says(2, "n (1 .. 8) bytes come; -4; -6 (n)");
        TurnedInSix x = new TurnedInSix();
        int[] few = {0, -1, MIN};
        for (int n : few) {
            due("feed(" + n + ")", x.feed(n, 0), -4);
        }
        int[] many = {9, 10, 16, 17, MAX, MAX - 15};
        for (int n : many) {
            due("feed(" + n + ")", x.feed(n, 0), -6);
        }
        due("count(6)", x.count(6), 0);
        refusals(x, 0, 0, 0, 3, 0, 6);
        says(2, "the lowest first: how many THE TAPE has");
        for (int n = 1; n < 8; n++) {
            x = new TurnedInSix();
            // All that stands above the first n bytes is none of them.
            due("feed(" + n + ")", x.feed(n, 0x2966656463626128L | -1L << 8 * n), n);
            due("count(6)", x.count(6), n);
            due("feed of the other " + (8 - n), x.feed(8 - n, 0x2966656463626128L >>> 8 * n), 8);
            due("turn() of two parts", x.turn(), 0);
            due("goes(0, 5)", x.goes(0, 5), 0);
        }
        says(2, "bytes");
        x = new TurnedInSix();
        for (int high = 128; high < 256; high += 32) {
            x.feed(1, high | '(');
            due("turn() of byte " + (high | '('), x.turn(), -20);
        }
        x.feed(8, 0x8080808080808080L);
        due("count(6)", x.count(6), 8);
        due("turn() of bytes 128", x.turn(), -20);
    }

    private static void tapeFull() {
        says(2, "-6 (above 16)");
        for (int has = 0; has <= 16; has++) {
            for (int n = 1; n <= 8; n++) {
                TurnedInSix x = new TurnedInSix();
                text(x, "0'0'0'0'0'0'0'0'".substring(0, has));
                boolean fits = has + n <= 16;
                due("feed(" + n + ") behind " + has, x.feed(n, -1L), fits ? has + n : -6);
                due("count(6)", x.count(6), fits ? has + n : has);
                refusals(x, 0, 0, 0, 0, 0, fits ? 0 : 1);
            }
        }
        says(2, "Refused, THE TAPE stays; of two refusals the first");
        TurnedInSix x = with("(ab)", "");
        text(x, "0'0'0'0'0'0'0'0'");
        due("feed(0) to a full tape", x.feed(0, -1L), -4);
        due("feed(9) to a full tape", x.feed(9, -1L), -6);
        due("feed(1) to a full tape", x.feed(1, -1L), -6);
        due("row() of the 16 bytes", x.row(), 0);
        due("rowOf(0, -1)", x.rowOf(0, -1), 8);
        due("rowOf(0, 7)", x.rowOf(0, 7), 1);
        due("feed(8) behind row()", x.feed(8, 0), 8);
    }

    // ---- TURNS ----

    private static void ringsOfATurn() {
        says(3, "\"(\", 2 .. 6 letters, \")\"");
        String letters = "abcdef";
        for (int many = 0; many <= 6; many++) {
            TurnedInSix x = new TurnedInSix();
            due("turn() of " + many + " letters", turn(x, "(" + letters.substring(0, many) + ")"), many < 2 ? -21 - many : 0);
            for (int place = 0; place < 6 && many >= 2; place++) {
                due("goes(0, " + place + ")", x.goes(0, place), place < many - 1 ? place + 1 : place == many - 1 ? 0 : place);
            }
        }
        due("turn() of a seventh letter", turn(new TurnedInSix(), "(abcdefg)"), -27);
        due("turn() of a letter twice", turn(new TurnedInSix(), "(abcdeff)"), -27);
        says(3, "letters a .. f");
        for (int sign = 0; sign < 256; sign++) {
            boolean letter = sign >= 'b' && sign <= 'f';
            due("turn() of (a" + sign + ")", turn(new TurnedInSix(), "(a" + (char) sign + ")"), letter ? 0 : -22);
        }
        says(3, "each letter once in all RINGS");
        for (int one = 0; one < 6; one++) {
            for (int other = 0; other < 6; other++) {
                char again = letters.charAt(other);
                String pair = "" + letters.charAt(one) + letters.charAt((one + 1) % 6);
                boolean twice = pair.indexOf(again) >= 0;
                due("turn() of (" + pair + ")(" + again, turn(new TurnedInSix(), "(" + pair + ")(" + again), twice ? -25 : -26);
            }
        }
        says(3, "the PIECE at each letter goes to the next one's PLACE, the last one's to the first's");
        TurnedInSix x = with("(fb)(dac)", "");
        int[] goes = {2, 5, 3, 0, 4, 1};
        for (int place = 0; place < 6; place++) {
            due("goes(0, " + place + ")", x.goes(0, place), goes[place]);
        }
    }

    /** The place of the first byte that can not stand, or -9: by what may stand behind each head of a text. */
    private static int turnFault(String text) {
        for (int end = 1; end <= text.length(); end++) {
            String head = text.substring(0, end);
            String letters = head.replaceAll("[()]", "");
            boolean once = letters.chars().distinct().count() == letters.length();
            if (!once || !head.matches("(\\([a-f]{2,6}\\))*(\\([a-f]{0,6})?")) {
                return end - 1;
            }
        }
        return text.endsWith(")") ? -9 : text.length();
    }

    private static void faultsOfATurn() {
        says(3, "FAULT: the place of the first byte that can not stand");
        String[] texts = {"(ab)(cd)(ef)", "(abcdef)", "(abc)(def)", "(fedc)(ba)"};
        for (String text : texts) {
            for (int place = 0; place <= text.length(); place++) {
                TurnedInSix x = new TurnedInSix();
                for (int sign = 0; sign < 256; sign++) {
                    String rest = place < text.length() ? text.substring(place + 1) : "";
                    faultOfATurn(x, text.substring(0, place) + (char) sign + rest);
                    x = sign % 64 == 63 ? new TurnedInSix() : x;
                }
            }
        }
        says(3, "FAULT: the end, if something lacks; of a RING of one letter its \")\"");
        for (String text : texts) {
            for (int place = 0; place <= text.length(); place++) {
                faultOfATurn(new TurnedInSix(), text.substring(0, place));
                faultOfATurn(new TurnedInSix(), text.substring(0, place) + ")");
                faultOfATurn(new TurnedInSix(), text.substring(0, place) + "(a)");
                faultOfATurn(new TurnedInSix(), text.substring(0, place) + "(f)");
            }
        }
        String[] lacking = {"", "(", "(a", "(ab", "(abcdef", "(ab)(", "(ab)(c", "(ab)(cd", "(ab)(cd)(e", "(ab)(cd)(ef"};
        for (String text : lacking) {
            due("turn() of " + text, turn(new TurnedInSix(), text), -20 - text.length());
        }
        allShortTurns("()abf", 6);
        says(3, "16 bytes at most: a FAULT stands at 12 at most behind three RINGS");
        due("turn() of 16 bytes", turn(new TurnedInSix(), "(ab)(cd)(ef)(ab)"), -20 - 13);
        due("turn() of 16 bytes", turn(new TurnedInSix(), "(ab)(cd)(ef))))))"), -20 - 12);
        due("turn() of 16 bytes", turn(new TurnedInSix(), "((((((((((((((((".substring(0, 16)), -21);
    }

    private static void allShortTurns(String signs, int longest) {
        List<String> texts = new ArrayList<>(List.of(""));
        TurnedInSix x = new TurnedInSix();
        for (int i = 0; i < texts.size(); i++) {
            faultOfATurn(x, texts.get(i));
            x = i % 60 == 59 || x.count(0) == 6 ? new TurnedInSix() : x;
            for (int sign = 0; sign < signs.length() && texts.get(i).length() < longest; sign++) {
                texts.add(texts.get(i) + signs.charAt(sign));
            }
        }
    }

    private static void faultOfATurn(TurnedInSix x, String text) {
        int fault = turnFault(text);
        int turns = x.count(0);
        text(x, text);
        if (turns == 6) {
            return;
        }
        due("turn() of " + text, x.turn(), fault == -9 ? turns : -20 - fault);
        looked += 1;
        if (x.count(6) != 0 || x.count(0) != (fault == -9 ? turns + 1 : turns)) {
            wrong++;
            System.out.println(sentence + ": behind " + text + " THE TAPE has " + x.count(6) + ", TURNS are " + x.count(0));
        }
    }

    private static void turnsFull() {
        says(3, "6 at most; -6 6. (Refused: THE TAPE stays.)");
        TurnedInSix x = new TurnedInSix();
        for (int i = 0; i < 6; i++) {
            due("turn()", turn(x, "(ab)"), i);
            due("count(0)", x.count(0), i + 1);
        }
        due("a seventh of an empty tape", x.turn(), -6);
        due("a seventh of a FAULT", turn(x, "(a"), -6);
        due("count(6)", x.count(6), 2);
        due("a seventh", turn(x, "b)"), -6);
        due("count(6)", x.count(6), 4);
        due("a seventh", x.turn(), -6);
        due("count(0)", x.count(0), 6);
        refusals(x, 0, 0, 0, 0, 0, 4);
        due("row() of that tape", x.row(), -20);
        due("count(6)", x.count(6), 0);
        says(3, "if it has a FAULT, -20 less its place (nothing is counted; THE TAPE has none, too)");
        x = new TurnedInSix();
        due("turn()", turn(x, "(ab)x"), -24);
        due("count(6)", x.count(6), 0);
        due("count(0)", x.count(0), 0);
        refusals(x, 0, 0, 0, 0, 0, 0);
        due("the next turn()", turn(x, "(ab)"), 0);
        says(3, "a TURN read behind a FAULT has nothing of it");
        x = new TurnedInSix();
        due("turn()", turn(x, "(fedcba"), -27);
        due("turn()", turn(x, "(bd)"), 0);
        int[] goes = {0, 3, 2, 1, 4, 5};
        for (int place = 0; place < 6; place++) {
            due("goes(0, " + place + ")", x.goes(0, place), goes[place]);
            due("goes(1, " + place + ")", x.goes(1, place), goes[place]);
        }
        x = with("(ab)", "");
        due("row()", row(x, "0'0'0'x"), -26);
        due("row()", row(x, "0"), 0);
        due("rowOf(0, -1)", x.rowOf(0, -1), 1);
        due("rowOf(0, 0)", x.rowOf(0, 0), 0);
        x = new TurnedInSix();
        due("turn()", turn(x, "(ab)"), 0);
        says(3, "THE TAPE becomes a TURN, and has none");
        due("count(6)", x.count(6), 0);
        due("turn() again", x.turn(), -20);
    }

    // ---- ROWS ----

    private static void movesOfARow() {
        says(4, "1 .. 8 MOVES: a digit (a TURN that there is) and perhaps '");
        for (int moves = 0; moves <= 9; moves++) {
            for (int back = 0; back < 2; back++) {
                String text = (back == 0 ? "0" : "0'").repeat(moves);
                if (text.length() > 16) {
                    continue;
                }
                TurnedInSix x = with("(ab)", "");
                due("row() of " + moves, row(x, text), moves == 0 ? -20 : moves == 9 ? -28 : 0);
                due("rowOf(0, -1)", x.rowOf(0, -1), moves == 0 || moves == 9 ? -1 : moves);
                for (int i = -2; i <= moves && moves > 0 && moves < 9; i++) {
                    due("rowOf(0, " + i + ")", x.rowOf(0, i), i == -1 ? moves : i < 0 || i == moves ? -9 : back);
                }
            }
        }
        says(4, "a TURN that there is");
        for (int turns = 0; turns <= 6; turns++) {
            TurnedInSix x = with("(ab) (ab) (ab) (ab) (ab) (ab)".substring(0, Math.max(0, 5 * turns - 1)), "");
            int rows = 0;
            for (int sign = 0; sign < 256; sign++) {
                boolean digit = sign >= '0' && sign < '0' + turns;
                due("row() of sign " + sign + " with " + turns + " turns", row(x, "" + (char) sign), digit ? rows : -20);
                rows += digit ? 1 : 0;
                x = sign == 128 ? with("(ab) (ab) (ab) (ab) (ab) (ab)".substring(0, Math.max(0, 5 * turns - 1)), "") : x;
                rows = sign == 128 ? 0 : rows;
            }
        }
    }

    /** As turnFault(), of a ROW where there are three TURNS. */
    private static int rowFault(String text) {
        for (int end = 1; end <= text.length(); end++) {
            if (!text.substring(0, end).matches("([0-2]'?){1,8}")) {
                return end - 1;
            }
        }
        return text.isEmpty() ? 0 : -9;
    }

    private static void faultOfARow(String text) {
        int fault = rowFault(text);
        TurnedInSix x = with("(ab) (cd) (ef)", "");
        due("row() of " + text, row(x, text), fault == -9 ? 0 : -20 - fault);
        due("count(6)", x.count(6), 0);
        due("count(1)", x.count(1), fault == -9 ? 1 : 0);
    }

    private static void faultsOfARow() {
        says(4, "FAULT likewise (of a ninth its digit)");
        String[] texts = {"0'1'2'0'1'2'0'1'", "01201201", "0'1201'201", "2", "2'"};
        String signs = "'0123/:9()ab\u0000\u00a7\u00ff";
        for (String text : texts) {
            for (int place = 0; place < Math.min(16, text.length() + 1); place++) {
                for (int sign = 0; sign < signs.length(); sign++) {
                    String rest = place < text.length() ? text.substring(place + 1) : "";
                    faultOfARow(text.substring(0, place) + signs.charAt(sign) + rest);
                }
                faultOfARow(text.substring(0, place));
            }
        }
        for (int backs = 0; backs <= 7; backs++) {
            String eight = "0'".repeat(backs) + "1".repeat(8 - backs);
            due("row() of a ninth", row(with("(ab) (bc)", ""), eight + "1"), -20 - 8 - backs);
            due("row() of a ninth, no turn", row(with("(ab) (bc)", ""), eight + "2"), -20 - 8 - backs);
            due("row() with ' behind the eighth", row(with("(ab) (bc)", ""), eight + "'"), 0);
            if (backs < 7) {
                due("row() of '' behind the eighth", row(with("(ab) (bc)", ""), eight + "''"), -20 - 9 - backs);
                due("row() of a ninth behind '", row(with("(ab) (bc)", ""), eight + "'0"), -20 - 9 - backs);
            }
        }
        List<String> all = new ArrayList<>(List.of(""));
        for (int i = 0; i < all.size(); i++) {
            faultOfARow(all.get(i));
            for (int sign = 0; sign < 4 && all.get(i).length() < 5; sign++) {
                all.add(all.get(i) + "02'3".charAt(sign));
            }
        }
        says(4, "nothing is counted");
        TurnedInSix x = with("(ab)", "");
        row(x, "0''");
        refusals(x, 0, 0, 0, 0, 0, 0);
        due("the next row()", row(x, "0"), 0);
    }

    private static void rowsFull() {
        says(4, "10 at most; -6 10. (Refused: THE TAPE stays.)");
        TurnedInSix x = with("(ab)", "");
        for (int i = 0; i < 10; i++) {
            due("row()", row(x, "0'"), i);
            due("count(1)", x.count(1), i + 1);
        }
        due("an eleventh of an empty tape", x.row(), -6);
        due("an eleventh of a FAULT", row(x, "("), -6);
        due("count(6)", x.count(6), 1);
        due("an eleventh", x.row(), -6);
        refusals(x, 0, 0, 0, 0, 0, 3);
        due("count(1)", x.count(1), 10);
        due("turn() of that tape and more", turn(x, "ef)"), 1);
        due("goes(2, 4)", x.goes(2, 4), 5);
        due("rowOf(9, 0)", x.rowOf(9, 0), 1);
        due("rowOf(10, 0)", x.rowOf(10, 0), -1);
    }

    // ---- numbers of MOVES, ROWS, PLACES ----

    private static void numbersTold() {
        for (int turns = 0; turns <= 6; turns += 3) {
            String texts = "(ab) (bc) (cd) (de) (ef) (fa)".substring(0, Math.max(0, 5 * turns - 1));
            says(5, "-1 either");
            int[] moves = {MIN, -1, 0, 2 * turns - 1, 2 * turns, MAX};
            int[] places = {MIN, -1, 0, 5, 6, MAX};
            TurnedInSix x = with(texts, "");
            int often = 0;
            for (int move : moves) {
                for (int place : places) {
                    boolean told = move >= 0 && move < 2 * turns && place >= 0 && place < 6;
                    int answer = x.goes(move, place);
                    due("goes(" + move + ", " + place + ")", told ? Math.min(answer, 0) : answer, told ? 0 : -1);
                    often += told ? 0 : 1;
                }
            }
            refusals(x, often, 0, 0, 0, 0, 0);
            says(11, "-1");
            for (int move : moves) {
                boolean told = move >= 0 && move < 2 * turns;
                due("make(" + move + ")", x.make(move), told ? x.count(3) == 6 ? 1 : 0 : -1);
            }
        }
        for (int rows = 0; rows <= 10; rows += 5) {
            String texts = "0 01 0 0 0 0' 0 0 0 0'1'0'1'0'1'0'1'".substring(0, rows == 0 ? 0 : rows == 5 ? 10 : 36);
            rowNumbers(rows, texts);
        }
        says(10, "-1");
        TurnedInSix x = new TurnedInSix();
        edges("now", 0, 5, place -> x.now(place), -1, -1);
        refusals(x, 4, 0, 0, 0, 0, 0);
    }

    private static void rowNumbers(int rows, String texts) {
        int[] told = {MIN, -1, 0, rows - 1, rows, MAX};
        TurnedInSix x = with("(ab) (bc)", texts);
        due("count(1)", x.count(1), rows);
        int often = 0;
        for (int row : told) {
            boolean there = row >= 0 && row < rows;
            int few = there ? 0 : -1;
            says(6, "-1");
            due("rowOf(" + row + ", -1)", Math.min(x.rowOf(row, -1), 0), few);
            due("rowOf(" + row + ", 99)", x.rowOf(row, 99), there ? -9 : -1);
            says(7, "-1 either");
            due("does(" + row + ", 0)", Math.min(x.does(row, 0), 0), few);
            due("does(" + row + ", 5)", Math.min(x.does(row, 5), 0), few);
            due("does(" + row + ", -1)", x.does(row, -1), -1);
            due("does(" + row + ", 6)", x.does(row, 6), -1);
            says(8, "-1");
            due("order(" + row + ")", Math.min(x.order(row), 0), few);
            says(9, "-1");
            due("keeps(" + row + ")", Math.min(x.keeps(row), 0), few);
            says(12, "-1");
            due("makeRow(" + row + ")", Math.min(x.makeRow(row), 0), few);
            says(17, "-9 none such. -1.");
            due("kind(" + row + ", 0)", Math.min(x.kind(row, 0), 0), few);
            due("kind(" + row + ", -1)", x.kind(row, -1), there ? -9 : -1);
            says(18, "-1");
            due("seconds(" + row + ")", Math.min(x.seconds(row), 0), few);
            says(19, "-1");
            due("mean(" + row + ")", Math.min(x.mean(row), 0), few);
            says(20, "-1");
            due("drawn(" + row + ", -1)", Math.min(x.drawn(row, -1), 0), few);
            says(21, "-1; -4; -6 5");
            due("better(" + row + ", 0)", x.better(row, 0), there ? -4 : -1);
            due("better(" + row + ", 6)", x.better(row, 6), there ? -6 : -1);
            due("better(" + row + ", 5)", Math.min(x.better(row, 5), 0), few);
            says(39, "-1; -4; -6");
            due("held(" + row + ", -1)", x.held(row, -1), there ? -4 : -1);
            due("held(" + row + ", 100)", x.held(row, 100), there ? -6 : -1);
            due("held(" + row + ", 0)", x.held(row, 0), there ? 0 : -1);
            says(40, "-1");
            due("heldUp(" + row + ")", x.heldUp(row), few);
            often += there ? 2 : 21;
        }
        int there = rows == 0 ? 0 : 2;
        refusals(x, often, 0, 0, 2 * there, 0, 2 * there);
    }

    private static void goesAndDoes() {
        says(5, "MOVES are told as 2 times the TURN, 1 more if it is done BACK");
        TurnedInSix x = with("(ab) (bcd) (ce) (dfa) (abcdef) (af)(be)(cd)", "");
        int[][] goals = {{1, 0, 2, 3, 4, 5}, {0, 2, 3, 1, 4, 5}, {0, 1, 4, 3, 2, 5}, {3, 1, 2, 5, 4, 0}, {1, 2, 3, 4, 5, 0}, {5, 4, 3, 2, 1, 0}};
        for (int turn = 0; turn < 6; turn++) {
            for (int place = 0; place < 6; place++) {
                due("goes(" + 2 * turn + ", " + place + ")", x.goes(2 * turn, place), goals[turn][place]);
                due("goes BACK", x.goes(2 * turn + 1, goals[turn][place]), place);
            }
        }
        says(7, "to which PLACE the PIECE at each PLACE goes: one MOVE behind the other, eight at most");
        row(x, "1");
        row(x, "1'");
        row(x, "14");
        row(x, "1'1'1'4'4'4'4'4'");
        int[][] does = {goals[1], {0, 3, 1, 2, 4, 5}, {1, 3, 4, 2, 5, 0}, {1, 2, 3, 4, 5, 0}};
        for (int row = 0; row < 4; row++) {
            for (int place = 0; place < 6; place++) {
                due("does(" + row + ", " + place + ")", x.does(row, place), does[row][place]);
            }
        }
    }

    private static void ordersAndKeeps() {
        says(8, "how often it is done till each PIECE is where it was (1 or more)");
        TurnedInSix x = with("(ab) (abc) (abcd) (abcde) (abcdef) (ab)(cde)", "00' 0 1 2 3 4 5");
        int[] orders = {1, 2, 3, 4, 5, 6, 6};
        for (int row = 0; row < 7; row++) {
            due("order(" + row + ")", x.order(row), orders[row]);
        }
        TurnedInSix y = with("(ab) (ab)(cd) (ab)(cd)(ef) (abc)(def) (abcd)(ef) (abcdef)", "0 1 2 3 4 5555555 555555 55555 5555 555");
        int[] others = {2, 2, 2, 3, 4, 6, 1, 6, 3, 2};
        for (int row = 0; row < 10; row++) {
            due("order(" + row + ")", y.order(row), others[row]);
        }
        says(9, "PLACES whose PIECE stays (bits)");
        int[] keeps = {63, 60, 56, 48, 32, 0, 32};
        for (int row = 0; row < 7; row++) {
            due("keeps(" + row + ")", x.keeps(row), keeps[row]);
        }
        int[] bits = {62, 61, 59, 55, 47, 31};
        String letters = "abcdef";
        for (int place = 0; place < 6; place++) {
            TurnedInSix z = with("(" + letters.replace("" + letters.charAt(place), "") + ")", "0");
            due("keeps(0) but " + letters.charAt(place), z.keeps(0), 63 - bits[place]);
        }
    }

    private static void nowAndPut() {
        says(13, "the order told by its number (0 .. 719): in order of PIECES at PLACES 0, 1, ..");
        List<int[]> all = new ArrayList<>();
        for (int number = 0; number < 46656; number++) {
            int[] digits = new int[6];
            for (int i = 5, rest = number; i >= 0; i--, rest /= 6) {
                digits[i] = rest % 6;
            }
            if (Arrays.stream(digits).distinct().count() == 6) {
                all.add(digits);
            }
        }
        TurnedInSix x = null;
        for (int order = 0; order < 720; order++) {
            x = order % 60 == 0 ? new TurnedInSix() : x;
            due("put(" + order + ")", x.put(order), order == 0 ? 1 : 0);
            for (int place = 0; place < 6; place++) {
                due("now(" + place + ") of " + order, x.now(place), all.get(order)[place]);
            }
        }
        says(13, "-4; -6");
        int[] below = {-1, -720, MIN};
        int[] above = {720, 721, MAX};
        x.put(719);
        for (int i = 0; i < 3; i++) {
            due("put(" + below[i] + ")", x.put(below[i]), -4);
            due("put(" + above[i] + ")", x.put(above[i]), -6);
            due("now(0) stays", x.now(0), 5);
        }
        refusals(x, 0, 0, 0, 3, 0, 3);
        says(11, "1 if it is SOLVED then, 0");
        TurnedInSix y = with("(ab)(cd)(ef) (abcdef)", "0 1 11'");
        due("make(0)", y.make(0), 0);
        due("count(3)", y.count(3), 0);
        due("make(1)", y.make(1), 1);
        for (int i = 1; i <= 12; i++) {
            due("make(2), time " + i, y.make(2), i % 6 == 0 ? 1 : 0);
        }
        due("make(-1), nothing is made", y.make(-1), -1);
        due("make(4), nothing is made", y.make(4), -1);
        due("count(3)", y.count(3), 6);
        says(12, "A ROW is made likewise");
        due("makeRow(0)", y.makeRow(0), 0);
        due("makeRow(2)", y.makeRow(2), 0);
        due("makeRow(0)", y.makeRow(0), 1);
        due("makeRow(2)", y.makeRow(2), 1);
        due("makeRow(3), nothing is made", y.makeRow(3), -1);
        due("count(3)", y.count(3), 6);
    }

    // ---- the HAND ----

    private static void times() {
        String six = "(ab) (ab) (ab) (ab) (ab) (ab)";
        for (int turns = 0; turns <= 6; turns++) {
            TurnedInSix x = with(six.substring(0, Math.max(0, 5 * turns - 1)), "");
            says(14, "TIME (1 .. 99 tenths; 10 at first), BACK (0 .. 99 more; 0)");
            for (int turn = 0; turn < turns; turn++) {
                due("time(" + turn + ", 0, 1)", x.time(turn, 0, 1), 10);
                due("time(" + turn + ", 0, 99)", x.time(turn, 0, 99), 1);
                due("time(" + turn + ", 0, " + (20 + turn) + ")", x.time(turn, 0, 20 + turn), 99);
                due("time(" + turn + ", 1, 0)", x.time(turn, 1, 0), 0);
                due("time(" + turn + ", 1, 99)", x.time(turn, 1, 99), 0);
                due("time(" + turn + ", 1, " + (40 + turn) + ")", x.time(turn, 1, 40 + turn), 99);
            }
            for (int turn = 0; turn < turns; turn++) {
                due("time(" + turn + ", 0, 10) as it was", x.time(turn, 0, 10), 20 + turn);
                due("time(" + turn + ", 1, 0) as it was", x.time(turn, 1, 0), 40 + turn);
            }
            says(14, "-1; -2; -4; -6");
            int[] none = {MIN, -1, turns, MAX};
            for (int turn : none) {
                due("time(" + turn + ", 0, 1)", x.time(turn, 0, 1), -1);
                due("time(" + turn + ", 2, 100)", x.time(turn, 2, 100), -1);
            }
            refusals(x, 8, 0, 0, 0, 0, 0);
        }
        TurnedInSix x = with("(ab)", "0'");
        int[] whats = {MIN, -1, 2, MAX};
        for (int what : whats) {
            due("time(0, " + what + ", 100)", x.time(0, what, 100), -2);
            due("time(0, " + what + ", -1)", x.time(0, what, -1), -2);
            due("time(0, " + what + ", 1)", x.time(0, what, 1), -2);
        }
        int[][] vs = {{0, 0, -4}, {0, -1, -4}, {0, MIN, -4}, {0, 100, -6}, {0, MAX, -6}, {1, -1, -4}, {1, MIN, -4}, {1, 100, -6}, {1, MAX, -6}};
        for (int[] v : vs) {
            due("time(0, " + v[0] + ", " + v[1] + ")", x.time(0, v[0], v[1]), v[2]);
        }
        due("seconds(0), all stays", x.seconds(0), 10);
        refusals(x, 0, 12, 0, 5, 0, 4);
    }

    private static void afters() {
        says(15, "for each two TURNS AFTER (-9 .. 99; 0)");
        TurnedInSix x = with("(ab) (ab) (ab) (ab) (ab) (ab)", "");
        for (int one = 0; one < 6; one++) {
            for (int other = 0; other < 6; other++) {
                due("after(" + one + ", " + other + ", ..)", x.after(one, other, 6 * one + other - 9), 0);
            }
        }
        for (int one = 0; one < 6; one++) {
            for (int other = 0; other < 6; other++) {
                due("after(" + one + ", " + other + ", -9)", x.after(one, other, -9), 6 * one + other - 9);
                due("after(" + one + ", " + other + ", 99)", x.after(one, other, 99), -9);
                due("after(" + one + ", " + other + ", 0)", x.after(one, other, 0), 99);
            }
        }
        says(15, "Refused as told: -1 either; -4; -6 (-1 as 1000000001)");
        x = with("(ab) (ab)", "");
        int[] none = {MIN, -1, 2, MAX};
        for (int turn : none) {
            due("after(" + turn + ", 0, 0)", x.after(turn, 0, 0), 1000000001);
            due("after(0, " + turn + ", 0)", x.after(0, turn, 0), 1000000001);
            due("after(" + turn + ", " + turn + ", -10)", x.after(turn, turn, -10), 1000000001);
            due("after(0, " + turn + ", 100)", x.after(0, turn, 100), 1000000001);
        }
        int[] below = {-10, -99, MIN};
        int[] above = {100, 101, MAX};
        for (int i = 0; i < 3; i++) {
            due("after(0, 1, " + below[i] + ")", x.after(0, 1, below[i]), 1000000004);
            due("after(0, 1, " + above[i] + ")", x.after(0, 1, above[i]), 1000000006);
        }
        refusals(x, 16, 0, 0, 3, 0, 3);
        due("after(0, 1, -1), it stays", x.after(0, 1, -1), 0);
        due("after(0, 1, 0), -1 is none of the refusals", x.after(0, 1, 0), -1);
    }

    private static void kinds() {
        says(17, "1 FLOWING, if AFTER is below 0 (not of the first); 2 REGRIPPED, if it is above; else 0");
        TurnedInSix x = with("(ab) (bc)", "01 00 11 10 0'1' 00 00'");
        int[] vs = {-9, -1, 0, 1, 99};
        int[] kinds = {1, 1, 0, 2, 2};
        for (int i = 0; i < 5; i++) {
            x.after(0, 1, vs[i]);
            due("kind(0, 1) of " + vs[i], x.kind(0, 1), kinds[i]);
            due("kind(4, 1) of " + vs[i], x.kind(4, 1), kinds[i]);
            due("kind(0, 0)", x.kind(0, 0), 0);
            due("kind(3, 1), the other way round", x.kind(3, 1), 0);
            due("kind(1, 1), of another pair", x.kind(1, 1), 0);
        }
        x.after(0, 0, -9);
        due("kind(5, 0), not of the first", x.kind(5, 0), 0);
        due("kind(5, 1)", x.kind(5, 1), 1);
        says(17, "3 UNDONE, if it is that ahead of it done the other way");
        due("kind(6, 1)", x.kind(6, 1), 3);
        x.after(0, 0, 99);
        due("kind(6, 1)", x.kind(6, 1), 3);
        due("kind(6, 0)", x.kind(6, 0), 0);
        TurnedInSix y = with("(ab) (ab)", "01 01' 0'0 0'0' 00'0 0100'");
        due("kind(0, 1), another TURN that does the same", y.kind(0, 1), 0);
        due("kind(1, 1), another TURN", y.kind(1, 1), 0);
        due("kind(2, 1)", y.kind(2, 1), 3);
        due("kind(3, 1), the same way", y.kind(3, 1), 0);
        due("kind(4, 1)", y.kind(4, 1), 3);
        due("kind(4, 2)", y.kind(4, 2), 3);
        due("kind(5, 2), not right behind", y.kind(5, 2), 0);
        due("kind(5, 3)", y.kind(5, 3), 3);
        says(17, "-9 none such");
        int[] none = {MIN, -2, -1, 2, 8, MAX};
        for (int i : none) {
            due("kind(0, " + i + ")", y.kind(0, i), -9);
        }
        due("kind(5, 4)", y.kind(5, 4), -9);
        TurnedInSix eight = with("(ab)", "00000000");
        due("kind(0, 7)", eight.kind(0, 7), 0);
        due("kind(0, 8)", eight.kind(0, 8), -9);
        refusals(y, 0, 0, 0, 0, 0, 0);
    }

    private static void secondsAtLeastOne() {
        says(18, "A MOVE takes TIME, if BACK BACK, and (but the first) AFTER, 1 at least");
        TurnedInSix x = with("(ab)", "0 00 0'0' 00000000 0'0'0'0'0'0'0'0'");
        int[] vs = {-9, -8, 0, 1, 99};
        int[] tenths = {1, 8, 9, 10, 11, 99};
        for (int time : tenths) {
            for (int v : vs) {
                for (int back = 0; back <= 99; back += 99) {
                    x.time(0, 0, time);
                    x.time(0, 1, back);
                    x.after(0, 0, v);
                    int forth = Math.max(1, time + v);
                    int other = Math.max(1, time + back + v);
                    String told = " of " + time + ", " + back + ", " + v;
                    due("seconds(0)" + told, x.seconds(0), time);
                    due("seconds(1)" + told, x.seconds(1), time + forth);
                    due("seconds(2)" + told, x.seconds(2), time + back + other);
                    due("seconds(3)" + told, x.seconds(3), time + 7 * forth);
                }
            }
        }
        says(18, "for each TURN its own TIME and BACK, for each two their own AFTER");
        TurnedInSix six = with("(ab) (bc) (cd) (de) (ef) (fa)", "");
        for (int turn = 0; turn < 6; turn++) {
            six.time(turn, 0, 20 + turn);
            six.time(turn, 1, 40 + turn);
        }
        for (int one = 0; one < 6; one++) {
            row(six, one + "'" + (5 - one));
            for (int other = 0; other < 6; other++) {
                six.after(one, other, 6 * one + other - 9);
            }
        }
        for (int one = 0; one < 6; one++) {
            int after = 6 * one + 5 - one - 9;
            due("seconds(" + one + ")", six.seconds(one), 20 + one + 40 + one + 25 - one + after);
            due("kind(" + one + ", 1)", six.kind(one, 1), after < 0 ? 1 : 2);
        }
        says(18, "SECONDS of a ROW: of all its MOVES, at the greatest and at the least");
        x.time(0, 0, 99);
        x.time(0, 1, 99);
        x.after(0, 0, 99);
        due("seconds(4)", x.seconds(4), 198 + 7 * 297);
        x.time(0, 0, 1);
        x.time(0, 1, 0);
        x.after(0, 0, -9);
        due("seconds(4)", x.seconds(4), 8);
    }

    private static void locksAndMean() {
        says(16, "LOCKS (0 .. 100 hundredths; 0) and LOCK (0 .. 99; 20)");
        TurnedInSix x = with("(ab)", "0 00000000");
        due("locks(0, 100)", x.locks(0, 100), 0);
        due("locks(1, 99)", x.locks(1, 99), 20);
        says(19, "100 times SECONDS and for each MOVE LOCKS times LOCK");
        due("mean(0)", x.mean(0), 1000 + 9900);
        due("mean(1)", x.mean(1), 8000 + 8 * 9900);
        x.time(0, 0, 99);
        x.after(0, 0, 99);
        due("mean(1), the greatest but BACK", x.mean(1), 100 * (99 + 7 * 198) + 8 * 9900);
        due("locks(0, 1)", x.locks(0, 1), 100);
        due("mean(0)", x.mean(0), 9900 + 99);
        due("locks(1, 0)", x.locks(1, 0), 99);
        due("mean(0)", x.mean(0), 9900);
        due("locks(0, 0)", x.locks(0, 0), 1);
        due("locks(1, 1)", x.locks(1, 1), 0);
        due("mean(0)", x.mean(0), 9900);
        says(16, "-2; -4; -6");
        int[] whats = {MIN, -1, 2, MAX};
        for (int what : whats) {
            due("locks(" + what + ", -1)", x.locks(what, -1), -2);
            due("locks(" + what + ", 101)", x.locks(what, 101), -2);
            due("locks(" + what + ", 0)", x.locks(what, 0), -2);
        }
        int[][] vs = {{0, -1, -4}, {0, MIN, -4}, {0, 101, -6}, {0, MAX, -6}, {1, -1, -4}, {1, MIN, -4}, {1, 100, -6}, {1, MAX, -6}};
        for (int[] v : vs) {
            due("locks(" + v[0] + ", " + v[1] + ")", x.locks(v[0], v[1]), v[2]);
        }
        refusals(x, 0, 12, 0, 4, 0, 4);
        due("locks(0, 0), it stays", x.locks(0, 0), 0);
        due("locks(1, 20), it stays", x.locks(1, 20), 1);
    }

    /** DRAWN by numbers without end: how many of so many MOVES lock. */
    private static int locked(int moves, int seed, int locks) {
        BigInteger all = BigInteger.ONE.shiftLeft(32);
        BigInteger z = BigInteger.valueOf(seed);
        int often = 0;
        for (int i = 0; i < moves; i++) {
            z = z.multiply(BigInteger.valueOf(1664525)).add(BigInteger.valueOf(1013904223)).mod(all);
            int hundredth = z.clearBit(31).divide(BigInteger.valueOf(256)).mod(BigInteger.valueOf(100)).intValue();
            often += hundredth < locks ? 1 : 0;
        }
        return often;
    }

    /** The seed that becomes z. */
    private static int seedOf(int z) {
        BigInteger all = BigInteger.ONE.shiftLeft(32);
        BigInteger back = BigInteger.valueOf(1664525).modInverse(all);
        return BigInteger.valueOf(z).subtract(BigInteger.valueOf(1013904223)).multiply(back).mod(all).intValue();
    }

    private static void seedsOfDrawn() {
        says(20, "z without its sign's bit by 256, cut, modulo 100 is below LOCKS");
        TurnedInSix x = with("(ab)", "0 00000000");
        x.locks(1, 99);
        // z becomes each of these; behind it stands the hundredth that it draws.
        int[][] becomes = {{0, 0}, {-1, 7}, {MIN, 0}, {MAX, 7}, {255, 0}, {256, 1}, {MIN + 255, 0}, {MIN + 256, 1}, {25599, 99},
            {25600, 0}, {MIN + 25599, 99}, {MIN + 25600, 0}, {-256, 7}, {-257, 6}, {MAX - 255, 7}, {MAX - 256, 6}};
        for (int[] one : becomes) {
            int seed = seedOf(one[0]);
            x.locks(0, one[1]);
            due("drawn(0, " + seed + "), LOCKS as drawn", x.drawn(0, seed), 10);
            x.locks(0, one[1] + 1);
            due("drawn(0, " + seed + "), LOCKS 1 more", x.drawn(0, seed), 10 + 99);
        }
        says(20, "z becomes z times 1664525 and 1013904223 (an int): as it wraps around, for each MOVE");
        int[] seeds = {0, 1, -1, 2, MIN, MIN + 1, MAX, MAX - 1, 1290, 1291, -1290, -1291, 681, 682, 1 << 16, -1 << 16, 987654321, seedOf(0), seedOf(-1)};
        for (int seed : seeds) {
            x = with("(ab)", "0 00 00000000");
            int[] locks = {0, 1, 37, 50, 99, 100};
            for (int v : locks) {
                x.locks(0, v);
                for (int lock = 0; lock <= 99; lock += 33) {
                    x.locks(1, lock);
                    due("drawn(0, " + seed + ") of " + v, x.drawn(0, seed), 10 + lock * locked(1, seed, v));
                    due("drawn(1, " + seed + ") of " + v, x.drawn(1, seed), 20 + lock * locked(2, seed, v));
                    due("drawn(2, " + seed + ") of " + v, x.drawn(2, seed), 80 + lock * locked(8, seed, v));
                }
            }
        }
        says(20, "it takes LOCK more (than SECONDS, AFTER and all)");
        TurnedInSix after = with("(ab)", "00'");
        after.time(0, 0, 30);
        after.time(0, 1, 6);
        after.after(0, 0, -7);
        due("drawn(0, 1) of 0", after.drawn(0, 1), 59);
        after.locks(0, 100);
        due("drawn(0, 1) of 100", after.drawn(0, 1), 59 + 40);
        due("mean(0)", after.mean(0), 5900 + 2 * 100 * 20);
        says(20, "LOCKS 0: none; LOCKS 100: each");
        x.locks(1, 99);
        x.locks(0, 0);
        due("drawn(2, 5) of 0", x.drawn(2, 5), 80);
        x.locks(0, 100);
        due("drawn(2, 5) of 100", x.drawn(2, 5), 80 + 8 * 99);
        due("drawn(2, 5) again", x.drawn(2, 5), 80 + 8 * 99);
    }

    // ---- BETTER, FOUND, FEWEST, FIRST ----

    private static void betterThan() {
        says(21, "of all rows of 1 .. n (5 at most) MOVES that do the same");
        TurnedInSix x = with("(abcdef)", "0 00 000 0000 00000 000000 00' 0'0'0'0'");
        int[] shortest = {1, 2, 3, 2, 1, 0, 2, 2};
        for (int row = 0; row < 8; row++) {
            for (int n = 1; n <= 5; n++) {
                // what does nothing takes two MOVES: 0 and 0'
                int moves = row == 5 ? 2 : shortest[row];
                due("better(" + row + ", " + n + ")", x.better(row, n), moves <= n ? 10 * moves : -3);
            }
        }
        TurnedInSix five = with("(ab) (bc) (cd) (de) (ef)", "01234 012340 0 00");
        for (int n = 1; n <= 5; n++) {
            due("better(0, " + n + ") of five MOVES", five.better(0, n), n == 5 ? 50 : -3);
            due("better(1, " + n + ") of six MOVES", five.better(1, n), -3);
            due("better(2, " + n + ")", five.better(2, n), 10);
            due("better(3, " + n + ")", five.better(3, n), n == 1 ? -3 : 20);
        }
        refusals(five, 0, 0, 10, 0, 0, 0);
        says(21, "-4; -6 5");
        edges("better", 1, 5, n -> five.better(2, n), -4, -6);
        says(21, "the one of least SECONDS");
        TurnedInSix y = with("(ab) (bc) (ac)", "1 01 00");
        y.time(1, 0, 30);
        // (bc) is (ab) (ac) (ab) too: 30 by itself, 30 by three
        due("better(0, 5)", y.better(0, 5), 30);
        due("found(-1), of several with fewer MOVES", y.found(-1), 1);
        due("found(0)", y.found(0), 2);
        y.time(1, 0, 31);
        due("better(0, 5)", y.better(0, 5), 30);
        due("found(-1)", y.found(-1), 3);
        due("better(0, 2)", y.better(0, 2), 31);
        y.time(1, 0, 99);
        y.time(0, 1, 1);
        says(21, "then the first by MOVES");
        due("better(0, 3)", y.better(0, 3), 30);
        due("found(0)", y.found(0), 0);
        due("found(1)", y.found(1), 4);
        due("found(2)", y.found(2), 0);
        y.time(0, 0, 11);
        due("better(0, 3)", y.better(0, 3), 31);
        due("found(0)", y.found(0), 4);
        due("found(1)", y.found(1), 0);
        due("found(2)", y.found(2), 4);
        says(21, "of least SECONDS: with BACK, AFTER, 1 at least");
        TurnedInSix z = with("(abc) (abd)", "0' 1 1'1'");
        z.time(0, 0, 9);
        z.time(0, 1, 1);
        z.after(0, 0, -8);
        due("better(0, 5), 0 0 takes 9 and 1: as long as 0', but more MOVES", z.better(0, 5), 10);
        due("found(-1)", z.found(-1), 1);
        z.time(0, 1, 2);
        due("better(0, 5)", z.better(0, 5), 10);
        due("found(-1)", z.found(-1), 2);
        due("found(1)", z.found(1), 0);
        z.after(0, 0, -9);
        due("better(0, 5), 1 at least", z.better(0, 5), 10);
        z.after(0, 0, -7);
        due("better(0, 5)", z.better(0, 5), 11);
        due("found(-1)", z.found(-1), 1);
        z.after(0, 0, 0);
        z.time(1, 0, 40);
        z.time(1, 1, 1);
        z.after(1, 1, -9);
        // BACK of turn 1 twice takes 41 and 32; once forth 40
        due("better(1, 2)", z.better(1, 2), 40);
        z.time(1, 0, 5);
        z.time(1, 1, 0);
        due("better(1, 2), 1 BACK twice: 5 and 1, more than 5", z.better(1, 2), 5);
        z.time(1, 1, 99);
        due("better(2, 1), forth alone", z.better(2, 1), 5);
        due("found(0)", z.found(0), 2);
        TurnedInSix order = with("(ab) (cd)", "01");
        order.after(0, 1, 3);
        due("better(0, 2), the other way round", order.better(0, 2), 20);
        due("found(0)", order.found(0), 2);
        due("found(1)", order.found(1), 0);
        order.after(1, 0, 3);
        due("better(0, 2)", order.better(0, 2), 23);
        due("found(0)", order.found(0), 0);
        due("found(1)", order.found(1), 2);
        y.time(0, 0, 10);
        says(21, "the one of least SECONDS, be they the greatest that there can be");
        // no other row of 1 .. 5 MOVES does the same
        TurnedInSix dear = with("(abcdef) (abc)", "0'0'1'0'0'");
        for (int one = 0; one < 2; one++) {
            dear.time(one, 0, 99);
            dear.time(one, 1, 99);
            dear.after(one, 0, 99);
            dear.after(one, 1, 99);
        }
        due("better(0, 4)", dear.better(0, 4), -3);
        due("better(0, 5)", dear.better(0, 5), 5 * 198 + 4 * 99);
        int[] dearest = {1, 1, 3, 1, 1};
        for (int i = 0; i < 5; i++) {
            due("found(" + i + ")", dear.found(i), dearest[i]);
        }
        says(21, "that do the same: nothing too, but by 1 MOVE or more");
        due("better(2, 1)", y.better(2, 1), -3);
        due("better(2, 2)", y.better(2, 2), 20);
        due("found(0)", y.found(0), 0);
        due("found(1)", y.found(1), 0);
    }

    private static void foundStays() {
        says(22, "i -1: how many; -9 none such");
        TurnedInSix x = with("(ab) (bc) (cd) (de) (ef)", "01234 0 012340");
        int[] none = {MIN, -2, 0, 5, MAX};
        due("found(-1) of none", x.found(-1), 0);
        for (int i : none) {
            due("found(" + i + ") of none", x.found(i), -9);
        }
        x.better(0, 5);
        due("found(-1)", x.found(-1), 5);
        for (int i = 0; i < 5; i++) {
            due("found(" + i + ")", x.found(i), 2 * i);
        }
        int[] others = {MIN, -2, 5, 6, MAX};
        for (int i : others) {
            due("found(" + i + ")", x.found(i), -9);
        }
        says(21, "it becomes FOUND (as long as nothing else does)");
        due("better(0, 4)", x.better(0, 4), -3);
        due("better(2, 5)", x.better(2, 5), -3);
        due("better(3, 5)", x.better(3, 5), -1);
        due("better(1, 0)", x.better(1, 0), -4);
        due("better(1, 6)", x.better(1, 6), -6);
        due("found(-1)", x.found(-1), 5);
        due("found(4)", x.found(4), 8);
        x.make(0);
        x.time(0, 0, 99);
        x.first();
        turn(x, "(af)");
        row(x, "5");
        due("found(-1)", x.found(-1), 5);
        due("found(0)", x.found(0), 0);
        due("better(1, 1)", x.better(1, 1), 99);
        due("found(-1)", x.found(-1), 1);
        due("found(1), none of those that were", x.found(1), -9);
        refusals(x, 1, 0, 2, 1, 0, 1);
    }

    private static void fewestAndFirst() {
        says(23, "MOVES from NOW till SOLVED; -9 none");
        TurnedInSix x = new TurnedInSix();
        for (int order = 0; order < 720; order += 24) {
            x.put(order);
            due("fewest() without TURNS of " + order, x.fewest(), order == 0 ? 0 : -9);
            says(24, "-9 none is needed, none does");
            due("first() without TURNS of " + order, x.first(), -9);
            says(23, "MOVES from NOW till SOLVED; -9 none");
        }
        TurnedInSix ring = with("(abcdef)", "");
        int[] fewest = {0, 1, 2, 3, 2, 1, 0};
        int[] first = {-9, 1, 1, 0, 0, 0, -9};
        for (int made = 0; made <= 6; made++) {
            says(23, "0 if none is needed");
            due("fewest() behind " + made, ring.fewest(), fewest[made]);
            says(24, "the least MOVE that begins so few; -9 none is needed");
            due("first() behind " + made, ring.first(), first[made]);
            ring.make(0);
        }
        says(23, "a TURN more");
        ring.put(120);
        due("fewest() of the first two changed", ring.fewest(), -9);
        due("first()", ring.first(), -9);
        turn(ring, "(ab)");
        due("fewest() with (ab)", ring.fewest(), 1);
        says(24, "the least MOVE of several");
        due("first()", ring.first(), 2);
        turn(ring, "(ab)");
        due("first()", ring.first(), 2);
        ring.put(0);
        ring.make(2);
        ring.make(0);
        due("fewest()", ring.fewest(), 2);
        due("first()", ring.first(), 1);
        TurnedInSix six = with("(ab) (ab) (ab) (ab) (ab) (cdef)", "");
        six.make(10);
        due("first() of twelve MOVES", six.first(), 11);
        six.make(10);
        due("first(), 10 as well as 11", six.first(), 10);
        six.make(0);
        due("first(), 0 as well", six.first(), 0);
        ring.put(0);
        due("fewest() of SOLVED", ring.fewest(), 0);
        due("first() of SOLVED", ring.first(), -9);
        refusals(ring, 0, 0, 0, 0, 0, 0);
    }

    // ---- WAYS ----

    private static void stepsFull() {
        says(25, "STEPS (4 at most): its number. -1 PLACES (0 .. 63), ROWS (0 .. 1023); -6 4");
        TurnedInSix x = new TurnedInSix();
        int[] places = {-1, 64, MIN, MAX};
        int[] rows = {-1, 1024, MIN, MAX};
        for (int i = 0; i < 4; i++) {
            due("step(" + places[i] + ", 0)", x.step(places[i], 0), -1);
            due("step(0, " + rows[i] + ")", x.step(0, rows[i]), -1);
            due("step(" + places[i] + ", " + rows[i] + ")", x.step(places[i], rows[i]), -1);
        }
        due("count(2)", x.count(2), 0);
        due("step(0, 0)", x.step(0, 0), 0);
        due("step(63, 1023)", x.step(63, 1023), 1);
        due("step(63, 0)", x.step(63, 0), 2);
        due("step(0, 1023)", x.step(0, 1023), 3);
        due("a fifth step(0, 0)", x.step(0, 0), -6);
        due("a fifth step(63, 1023)", x.step(63, 1023), -6);
        due("a fifth step(64, 0)", x.step(64, 0), -1);
        due("a fifth step(0, -1)", x.step(0, -1), -1);
        due("count(2)", x.count(2), 4);
        refusals(x, 14, 0, 0, 0, 0, 2);
        for (int steps = 0; steps <= 4; steps++) {
            stepNumbers(steps);
        }
    }

    private static void stepNumbers(int steps) {
        TurnedInSix x = new TurnedInSix();
        for (int i = 0; i < steps; i++) {
            x.step(0, 0);
        }
        int[] told = {MIN, -1, 0, steps - 1, steps, MAX};
        int often = 0;
        for (int step : told) {
            boolean there = step >= 0 && step < steps;
            says(27, "-9. -1.");
            due("triedRow(" + step + ")", x.triedRow(step), there ? -9 : -1);
            says(30, "part 0 above, 1 below the line. -1; -2.");
            due("luck(" + step + ", 0)", x.luck(step, 0), there ? 1 : -1);
            due("luck(" + step + ", 1)", x.luck(step, 1), there ? 1 : -1);
            due("luck(" + step + ", 2)", x.luck(step, 2), there ? -2 : -1);
            due("luck(" + step + ", -1)", x.luck(step, -1), there ? -2 : -1);
            due("luck(" + step + ", least)", x.luck(step, MIN), there ? -2 : -1);
            due("luck(" + step + ", greatest)", x.luck(step, MAX), there ? -2 : -1);
            says(31, "what it was. -1; -4; -6.");
            due("see(" + step + ", 0)", x.see(step, 0), there ? 0 : -1);
            due("see(" + step + ", -1)", x.see(step, -1), there ? -4 : -1);
            due("see(" + step + ", 100)", x.see(step, 100), there ? -6 : -1);
            says(34, "-9. -1.");
            due("learn(" + step + ")", x.learn(step), there ? -9 : -1);
            often += there ? 0 : 11;
        }
        int there = steps == 0 ? 0 : 2;
        refusals(x, often, 4 * there, 0, there, 0, there);
    }

    private static void doneAndStuck() {
        says(26, "the STEP at which it is STUCK; -9 none");
        TurnedInSix x = with("(ab) (bc) (cd) (de)", "0 1 2 3");
        due("tried() without STEPS", x.tried(), -9);
        x.step(1, 1);
        x.step(2, 2);
        x.step(4, 4);
        x.step(8, 8);
        for (int stuck = 0; stuck < 4; stuck++) {
            // a .. up to the letter of the STEP are at their own, that of the STEP is at f
            x.put(0);
            turnTo(x, stuck);
            due("tried() at " + stuck, x.tried(), stuck);
            for (int step = 0; step < 4; step++) {
                says(27, "-9 none was needed, or it came not so far");
                due("triedRow(" + step + ")", x.triedRow(step), -9);
            }
            says(26, "the STEP at which it is STUCK; -9 none");
        }
        x.put(1);
        due("tried(), e and f are of no STEP", x.tried(), -9);
        says(27, "which was made");
        x.put(0);
        for (int move = 6; move >= 0; move -= 2) {
            x.make(move);
        }
        due("tried() with all four ROWS", x.tried(), -9);
        for (int step = 0; step < 4; step++) {
            due("triedRow(" + step + ")", x.triedRow(step), step);
        }
        due("now(0), nothing is made of NOW", x.now(0), 4);
        leastRow();
        rowsThatAreNone();
        placesAhead();
    }

    /** Of SOLVED the piece of one place and that of place 5 change places. */
    private static void turnTo(TurnedInSix x, int place) {
        int[] weights = {120, 24, 6, 2, 1};
        // At the place the greatest of all that are left; of those behind it each has one smaller left, the place's own.
        int number = (5 - place) * weights[place];
        for (int next = place + 1; next < 5; next++) {
            number += weights[next];
        }
        x.put(number);
        due("now(" + place + ")", x.now(place), 5);
        due("now(5)", x.now(5), place);
    }

    private static void leastRow() {
        says(26, "the least of its ROWS behind which it is (it is made then)");
        TurnedInSix x = with("(ab) (abc)", "1 0 1' 0 01'0");
        x.step(1, 31);
        x.make(0);
        // the piece a at b: (abc) takes it to c, (ab) home, (abc) BACK home, too
        due("triedRow(0)", x.triedRow(0), 1);
        TurnedInSix other = with("(ab) (abc)", "1 0 1' 0 01'0");
        other.step(1, 29);
        other.make(0);
        due("triedRow(0) without ROW 1", other.triedRow(0), 2);
        TurnedInSix last = with("(ab)", "00 00 00 00 00 00 00 00 00 0");
        last.step(3, 1023);
        last.make(0);
        due("triedRow(0), the tenth", last.triedRow(0), 9);
        TurnedInSix none = with("(ab)", "00 00 00 00 00 00 00 00 00 0");
        none.step(3, 511);
        none.make(0);
        due("tried() without the tenth", none.tried(), 0);
        says(26, "if it is not DONE");
        none.make(0);
        due("tried() of SOLVED", none.tried(), -9);
        due("triedRow(0), none was needed", none.triedRow(0), -9);
    }

    private static void rowsThatAreNone() {
        says(25, "a set of ROWS (bits; those that there are not are none)");
        TurnedInSix x = with("(ab)", "");
        x.step(3, 1023);
        x.make(0);
        due("tried() without ROWS", x.tried(), 0);
        due("solves()", x.solves(), 1);
        due("learn(0)", x.learn(0), -9);
        row(x, "00");
        due("tried() with a ROW that does nothing", x.tried(), 0);
        says(26, "a STEP without PLACES is DONE");
        TurnedInSix y = new TurnedInSix();
        y.step(0, 0);
        y.put(719);
        due("tried()", y.tried(), -9);
        says(26, "a STEP without ROWS is STUCK, if it is not DONE");
        y.step(1, 0);
        due("tried()", y.tried(), 1);
        y.put(119);
        due("tried(), a is at its own", y.tried(), -9);
    }

    private static void placesAhead() {
        says(26, "the PIECES of its PLACES, and of those of STEPS ahead, are at their own");
        TurnedInSix x = with("(ab) (bc) (ca)", "0 1 2");
        x.step(1, 1);
        x.step(2, 7);
        x.put(0);
        x.make(2);
        // b and c change places: (ab) would bring neither home and lose a, (bc) does
        due("triedRow(1)", x.triedRow(1), 1);
        TurnedInSix y = with("(ab) (abc)(de)", "0 1 1'");
        y.step(1, 6);
        y.step(0, 7);
        y.step(8, 7);
        y.put(2);
        due("now(3)", y.now(3), 4);
        due("now(4)", y.now(4), 3);
        // (abc)(de) brings d and e home, but takes a away
        due("tried()", y.tried(), 2);
        y.put(0);
        y.make(2);
        due("tried(), a and d come home at once", y.tried(), -9);
        due("triedRow(0)", y.triedRow(0), 2);
        due("triedRow(2)", y.triedRow(2), -9);
    }

    private static void solvesAndLacks() {
        says(28, "those from which a TRY is not STUCK and ends SOLVED");
        TurnedInSix x = with("(ab) (ef)", "0 1 01");
        due("solves() without STEPS", x.solves(), 1);
        x.step(15, 1);
        due("solves() of a b c d", x.solves(), 2);
        says(29, "the first of these that is STUCK, or does not end SOLVED");
        due("lacks(), not SOLVED", x.lacks(), 1);
        says(28, "those from which a TRY is not STUCK and ends SOLVED");
        x.step(63, 2);
        due("solves()", x.solves(), 4);
        says(29, "the first of these that is STUCK, or does not end SOLVED");
        due("lacks(), STUCK", x.lacks(), 2);
        TurnedInSix all = with("(ef) (de) (df) (def)", "0 1 2 3 3'");
        all.step(63, 31);
        due("solves() of d e f", all.solves(), 6);
        due("lacks() behind the first six", all.lacks(), 6);
        all.put(719);
        due("lacks() is not from NOW", all.lacks(), 6);
        TurnedInSix more = with("(ef) (de) (df) (def)", "0 1 2 3 3'");
        more.step(63, 15);
        due("solves()", more.solves(), 5);
        // (def) BACK alone brings f d e home
        due("lacks() in the middle", more.lacks(), 4);
        says(29, "-9 none: ten ROWS are too few for that, some order is always told");
        TurnedInSix ten = tenRows();
        due("lacks()", ten.lacks() >= 0 && ten.lacks() < 720 ? 1 : 0, 1);
        due("lacks() is the first", ten.lacks(), lackOf(tenRows()));
    }

    private static TurnedInSix tenRows() {
        TurnedInSix ten = with("(ab) (ac) (ad) (ae) (af) (bc)", "0 1 2 3 4 5 05 10 20 30");
        ten.step(1, 1023);
        ten.step(2, 1023);
        ten.step(4, 1023);
        ten.step(63, 1023);
        return ten;
    }

    /** LACKS by putting one order behind the other and making the rows of the TRY. */
    private static int lackOf(TurnedInSix x) {
        for (int order = 0; order < 40; order++) {
            x.put(order);
            boolean stuck = x.tried() != -9;
            int[] rows = new int[x.count(2)];
            for (int step = 0; step < rows.length; step++) {
                rows[step] = x.triedRow(step);
            }
            for (int row : rows) {
                if (row >= 0) {
                    x.makeRow(row);
                }
            }
            if (stuck || x.count(3) != 6) {
                return order;
            }
        }
        return -9;
    }

    private static void luck() {
        says(30, "of those that come to it (not STUCK ahead) the part that need no ROW, in least terms");
        TurnedInSix x = with("(ab) (bc)", "0 1");
        int[][] luck = {{1, 6}, {1, 5}, {1, 4}, {1, 6}};
        x.step(1, 0);
        x.step(2, 0);
        x.step(4, 0);
        x.step(56, 0);
        // without ROWS only those that need none come to the next
        for (int step = 0; step < 4; step++) {
            due("luck(" + step + ", 0)", x.luck(step, 0), luck[step][0]);
            due("luck(" + step + ", 1)", x.luck(step, 1), luck[step][1]);
        }
        TurnedInSix y = with("(ab) (bc)", "0 1");
        y.step(1, 1);
        y.step(2, 2);
        // 240 come to STEP 1: of 120 a was home, of these 24 have b too; of 120 (ab) brought it, of these 24, too
        due("luck(1, 0)", y.luck(1, 0), 1);
        due("luck(1, 1)", y.luck(1, 1), 5);
        y.step(0, 0);
        due("luck(2, 0), a STEP without PLACES", y.luck(2, 0), 1);
        due("luck(2, 1)", y.luck(2, 1), 1);
        TurnedInSix all = new TurnedInSix();
        all.step(0, 0);
        all.step(63, 0);
        all.step(63, 0);
        due("luck(0, 0), all", all.luck(0, 0), 1);
        due("luck(0, 1), all", all.luck(0, 1), 1);
        due("luck(1, 0), one of 720", all.luck(1, 0), 1);
        due("luck(1, 1), one of 720", all.luck(1, 1), 720);
        due("luck(2, 0), the one that comes", all.luck(2, 0), 1);
        due("luck(2, 1), the one that comes", all.luck(2, 1), 1);
        says(30, "0 by 1, if there are none: SOLVED comes to each STEP and needs none, so there are some");
        TurnedInSix stuck = with("(ab)", "0");
        stuck.step(63, 0);
        stuck.step(1, 1);
        due("luck(1, 0)", stuck.luck(1, 0), 1);
        due("luck(1, 1)", stuck.luck(1, 1), 1);
        says(30, "in least terms, not of a small line alone");
        TurnedInSix three = with("(abc) (ab)", "0 0'");
        three.step(6, 3);
        three.step(1, 0);
        // 24 have b and c home, 24 each ROW brings home: of all these a may be at 4 places
        due("luck(0, 0)", three.luck(0, 0), 1);
        due("luck(0, 1)", three.luck(0, 1), 30);
        due("luck(1, 0)", three.luck(1, 0), 1);
        due("luck(1, 1)", three.luck(1, 1), 4);
    }

    // ---- EYES ----

    private static void see() {
        says(31, "SEE of each STEP (0 .. 99 tenths; 0)");
        TurnedInSix x = new TurnedInSix();
        for (int step = 0; step < 4; step++) {
            x.step(0, 0);
            due("see(" + step + ", 99)", x.see(step, 99), 0);
            due("see(" + step + ", 0)", x.see(step, 0), 99);
            due("see(" + step + ", " + (10 + step) + ")", x.see(step, 10 + step), 0);
        }
        for (int step = 0; step < 4; step++) {
            int one = step;
            due("see(" + step + ", -1)", x.see(one, -1), -4);
            due("see(" + step + ", least)", x.see(one, MIN), -4);
            due("see(" + step + ", 100)", x.see(one, 100), -6);
            due("see(" + step + ", greatest)", x.see(one, MAX), -6);
            due("see(" + step + ", 0), it stays", x.see(one, 0), 10 + step);
        }
        refusals(x, 0, 0, 0, 8, 0, 8);
    }

    private static void paces() {
        says(32, "PACE (50 .. 300 hundredths); -4; -6");
        TurnedInSix x = with("(ab) (ab)(cd)", "0 1");
        edges("sum", 50, 300, pace -> x.sum(pace), -4, -6);
        refusals(x, 0, 0, 0, 2, 0, 2);
        x.step(3, 1);
        x.put(719);
        says(32, "-9 it is STUCK; refusals ahead of it");
        due("sum(50)", x.sum(50), -9);
        due("sum(300)", x.sum(300), -9);
        due("sum(49)", x.sum(49), -4);
        due("sum(301)", x.sum(301), -6);
        says(32, "a ROW takes SECONDS times PACE by 100, cut");
        x.put(120);
        int[] tenths = {1, 2, 3, 7, 11, 99};
        for (int v : tenths) {
            x.time(0, 0, v);
            int[] paces = {50, 51, 66, 67, 99, 100, 101, 149, 150, 199, 200, 299, 300};
            for (int pace : paces) {
                due("sum(" + pace + ") of " + v, x.sum(pace), (long) v * pace / 100);
            }
        }
        says(32, "all ROWS made, each cut by itself");
        TurnedInSix two = with("(ab) (cd)", "0 1");
        two.time(0, 0, 11);
        two.time(1, 0, 13);
        two.step(3, 1);
        two.step(12, 2);
        two.make(0);
        two.make(2);
        due("sum(50)", two.sum(50), 5 + 6);
        due("sum(99)", two.sum(99), 10 + 12);
        due("sum(100)", two.sum(100), 24);
        says(32, "0 without STEPS, NOW as it is");
        TurnedInSix none = new TurnedInSix();
        none.put(719);
        due("sum(300)", none.sum(300), 0);
    }

    /** Four STEPS, ROW i for STEP i of 10, 20, 30, 40 tenths. */
    private static TurnedInSix eyes() {
        TurnedInSix x = with("(ab) (bc) (cd) (de)", "0 1 2 3");
        for (int step = 0; step < 4; step++) {
            x.time(step, 0, 10 * step + 10);
            x.step(1 << step, 1 << step);
        }
        return x;
    }

    private static void waits() {
        says(32, "WAIT ahead of a STEP (but the first)");
        TurnedInSix x = eyes();
        x.see(0, 99);
        due("sum(100)", x.sum(100), 0);
        says(32, "(nothing, if none was needed)");
        x.see(1, 7);
        x.see(2, 8);
        x.see(3, 9);
        due("sum(100) of SOLVED", x.sum(100), 7 + 8 + 9);
        due("sum(300) of SOLVED", x.sum(300), 7 + 8 + 9);
        says(32, "SEE less what the ROW of the STEP ahead of it takes, 0 at least");
        x.make(0);
        int[] sees = {0, 9, 10, 11, 99};
        int[] waits = {0, 0, 0, 1, 89};
        for (int i = 0; i < 5; i++) {
            x.see(1, sees[i]);
            due("sum(100), SEE " + sees[i], x.sum(100), 10 + waits[i] + 8 + 9);
        }
        x.see(1, 10);
        due("sum(99)", x.sum(99), 9 + 1 + 8 + 9);
        due("sum(50)", x.sum(50), 5 + 5 + 8 + 9);
        due("sum(300)", x.sum(300), 30 + 8 + 9);
        says(32, "of each STEP that a TRY comes to: with all four ROWS");
        TurnedInSix y = eyes();
        y.see(1, 11);
        y.see(2, 22);
        y.see(3, 33);
        for (int move = 6; move >= 0; move -= 2) {
            y.make(move);
        }
        due("sum(100)", y.sum(100), 10 + 1 + 20 + 2 + 30 + 3 + 40);
        due("sum(110)", y.sum(110), 11 + 0 + 22 + 0 + 33 + 0 + 44);
        due("sum(50)", y.sum(50), 5 + 6 + 10 + 12 + 15 + 18 + 20);
        says(32, "the STEP ahead of it, not the one ahead of that");
        TurnedInSix z = eyes();
        z.see(2, 50);
        z.make(0);
        due("sum(100), STEP 1 needed none", z.sum(100), 10 + 50);
        z.put(0);
        z.make(2);
        due("sum(100), STEP 1 took 20", z.sum(100), 20 + 30);
        z.see(3, 99);
        z.put(1);
        due("sum(100), e and f", z.sum(100), 50 + 99);
        z.put(6);
        due("sum(100), STEP 2 took 30", z.sum(100), 50 + 30 + 69);
        z.put(719);
        due("sum(100), STUCK", z.sum(100), -9);
    }

    private static void bestPace() {
        says(33, "of 50, 60, .. 300 that of the least SUM, of several the greatest");
        TurnedInSix x = eyes();
        due("bestPace(), all 0", x.bestPace(), 300);
        x.see(1, 9);
        due("bestPace() of a WAIT alone", x.bestPace(), 300);
        x.see(1, 0);
        x.make(0);
        due("bestPace() of a ROW alone", x.bestPace(), 50);
        // 10 tenths: up to its SEE the ROW takes what one waits less
        int[][] sees = {{5, 50}, {6, 60}, {15, 150}, {29, 290}, {30, 300}, {99, 300}, {4, 50}};
        for (int[] one : sees) {
            x.see(1, one[0]);
            due("bestPace(), SEE " + one[0], x.bestPace(), one[1]);
        }
        says(33, "of 50, 60, ..: of several the greatest of these");
        x.time(0, 0, 1);
        x.see(1, 0);
        due("bestPace(), cut to 0 up to 99", x.bestPace(), 90);
        x.see(1, 1);
        due("bestPace(), cut to 1 up to 199", x.bestPace(), 190);
        x.see(1, 2);
        due("bestPace(), cut to 2 up to 299", x.bestPace(), 290);
        x.see(1, 3);
        due("bestPace()", x.bestPace(), 300);
        says(33, "-9: STUCK");
        x.put(719);
        due("bestPace()", x.bestPace(), -9);
        refusals(x, 0, 0, 0, 0, 0, 0);
        says(33, "without STEPS");
        due("bestPace()", new TurnedInSix().bestPace(), 300);
    }

    private static void learn() {
        says(34, "the ROW not among its own that, added, makes SOLVES greatest");
        TurnedInSix x = with("(ab) (cd) (ab)(cd)", "00' 0 1 2 12");
        x.step(15, 0);
        x.step(63, 2);
        due("solves()", x.solves(), 1);
        // STEP 0 learns (ab), (cd), both at once, or (ab) again: each 1 more
        due("learn(0), of several the least", x.learn(0), 1);
        due("learn(1)", x.learn(1), -9);
        due("solves() as it was", x.solves(), 1);
        says(34, "more than now");
        TurnedInSix full = with("(ab)", "0 0 00");
        full.step(63, 1);
        due("learn(0), as much as now", full.learn(0), -9);
        TurnedInSix none = with("(ab)", "00");
        none.step(63, 0);
        due("learn(0), a ROW that does nothing", none.learn(0), -9);
        // Each ROW that helps a STEP helps it as much as the next: it brings just one more way to where it is DONE.
        says(34, "of several the least");
        TurnedInSix two = with("(ab) (bc) (ac) (ef)", "3 0 03 1 0");
        two.step(1, 0);
        two.step(63, 1);
        // (ef) keeps a, (bc) does, too: (ab), (ab)(ef) and (ab) again bring it home
        due("learn(0)", two.learn(0), 1);
        due("solves() now", two.solves(), 2);
        due("learn(1)", two.learn(1), 3);
        TurnedInSix zero = with("(ab) (bc)", "0 1 0");
        zero.step(63, 0);
        due("learn(0), ROW 0", zero.learn(0), 0);
        TurnedInSix behind = with("(ab) (bc)", "0 1 0");
        behind.step(63, 1);
        due("learn(0), ROW 0 is its own", behind.learn(0), 1);
        TurnedInSix last = with("(ab)", "00 00 00 00 00 00 00 00 00 0");
        last.step(3, 511);
        due("learn(0), the tenth", last.learn(0), 9);
        TurnedInSix own = with("(ab)", "00 00 00 00 00 00 00 00 00 0");
        own.step(3, 1023);
        due("learn(0), all are its own", own.learn(0), -9);
    }

    // ---- FIVE ----

    private static void fiveFull() {
        says(35, "times (1 .. 9999; 5 at most) come: how many. -4; -6 (9999; 5, too)");
        TurnedInSix x = new TurnedInSix();
        int[] below = {0, -1, MIN};
        int[] above = {10000, 10001, MAX};
        for (int has = 0; has <= 5; has++) {
            for (int i = 0; i < 3; i++) {
                due("five(" + below[i] + ") behind " + has, x.five(below[i]), -4);
                due("five(" + above[i] + ") behind " + has, x.five(above[i]), -6);
            }
            due("count(4)", x.count(4), has);
            due("five(..) behind " + has, x.five(has % 2 == 0 ? 1 : 9999), has == 5 ? -6 : has + 1);
        }
        due("five(1), a sixth", x.five(1), -6);
        due("five(9999), a sixth", x.five(9999), -6);
        refusals(x, 0, 0, 0, 18, 0, 21);
        due("middle(0) of 1 1 1 9999 9999", x.middle(0), 10001);
        due("middle(1)", x.middle(1), 3);
        says(35, "they come again");
        due("five(7)", x.five(7), 1);
    }

    private static void middle() {
        says(36, "-2; -3 there are not five");
        for (int has = 0; has <= 5; has++) {
            TurnedInSix x = new TurnedInSix();
            for (int i = 0; i < has; i++) {
                x.five(5);
            }
            int[] parts = {MIN, -1, 2, MAX};
            for (int part : parts) {
                due("middle(" + part + ") of " + has, x.middle(part), -2);
            }
            due("middle(0) of " + has, x.middle(0), has == 5 ? 5 : -3);
            due("count(4)", x.count(4), has);
            due("middle(1) of " + has, x.middle(1), has == 5 ? 1 : -3);
            due("count(4)", x.count(4), has == 5 ? 0 : has);
            refusals(x, 0, 4, has == 5 ? 0 : 2, 0, 0, 0);
        }
        says(36, "the sum without the least and the greatest by 3, in least terms");
        int[][] fives = {{1, 1, 1, 1, 1, 1, 1}, {9999, 9999, 9999, 9999, 9999, 9999, 1}, {1, 9999, 1, 9999, 1, 10001, 3},
            {5, 4, 3, 2, 1, 3, 1}, {1, 2, 3, 4, 6, 3, 1}, {1, 1, 2, 2, 2, 5, 3}, {2, 2, 2, 1, 3, 2, 1}, {7, 7, 7, 7, 8, 7, 1},
            {1, 7, 7, 7, 7, 7, 1}, {1, 2, 2, 3, 9, 7, 3}, {3, 3, 1, 9, 2, 8, 3}, {9999, 1, 9999, 9998, 9999, 29996, 3}};
        for (int[] one : fives) {
            for (int turned = 0; turned < 5; turned++) {
                TurnedInSix x = new TurnedInSix();
                for (int i = 0; i < 5; i++) {
                    x.five(one[(i + turned) % 5]);
                }
                due("middle(0)", x.middle(0), one[5]);
                due("middle(1)", x.middle(1), one[6]);
                says(36, "the times are none then, if part is 1");
                due("middle(1) again", x.middle(1), -3);
                due("five(1)", x.five(1), 1);
            }
        }
    }

    private static void need() {
        says(37, "-4 below 1; -6 9999; -3 there are not four");
        for (int has = 0; has <= 5; has++) {
            TurnedInSix x = new TurnedInSix();
            for (int i = 0; i < has; i++) {
                x.five(5);
            }
            int[] below = {0, -1, MIN};
            int[] above = {10000, 10001, MAX};
            for (int i = 0; i < 3; i++) {
                due("need(" + below[i] + ") of " + has, x.need(below[i]), -4);
                due("need(" + above[i] + ") of " + has, x.need(above[i]), -6);
            }
            due("need(1) of " + has, x.need(1), has == 4 ? -9 : -3);
            due("need(9999) of " + has, x.need(9999), has == 4 ? 9999 : -3);
            refusals(x, 0, 0, has == 4 ? 0 : 2, 3, 0, 3);
            due("count(4)", x.count(4), has);
        }
        says(37, "the greatest fifth (9999 at most) with which that is no more than told; -9 none (1 is too much)");
        int[][] needs = {
            // four times, told, NEED
            {1, 1, 1, 1, 1, 9999}, {9999, 9999, 9999, 9999, 9999, 9999}, {9999, 9999, 9999, 9999, 9998, -9},
            {5, 5, 5, 5, 4, -9}, {5, 5, 5, 5, 5, 9999}, {10, 20, 30, 40, 19, -9}, {10, 20, 30, 40, 20, 10},
            {10, 20, 30, 40, 21, 13}, {10, 20, 30, 40, 29, 37}, {10, 20, 30, 40, 30, 9999}, {1, 1, 2, 2, 1, -9},
            {1, 1, 1, 2, 1, 1}, {1, 1, 2, 3, 1, -9}, {1, 1, 1, 4, 1, 1}, {1, 1, 1, 4, 2, 9999}, {2, 2, 2, 9999, 3333, 9995},
            {2, 2, 2, 9999, 3334, 9998}, {2, 2, 2, 9999, 3335, 9999}, {2, 2, 3, 9999, 3334, 9997}, {3, 2, 1, 2, 2, 2},
            {1, 9999, 9999, 9999, 6666, -9}, {1, 9999, 9999, 9999, 6667, 3}, {1, 9999, 9999, 9999, 9998, 9996},
            {1, 9999, 9999, 9999, 9999, 9999}, {2, 2, 2, 2, 1, -9}, {2, 2, 2, 2, 2, 9999}};
        for (int[] one : needs) {
            for (int turned = 0; turned < 4; turned++) {
                TurnedInSix x = new TurnedInSix();
                for (int i = 0; i < 4; i++) {
                    x.five(one[(i + turned) % 4]);
                }
                due("need(" + one[4] + ") of " + Arrays.toString(one), x.need(one[4]), one[5]);
                due("count(4), nothing comes", x.count(4), 4);
                int fifth = one[5] == -9 ? 1 : one[5];
                x.five(fifth);
                int three = x.middle(0) * (x.middle(1) == 1 ? 3 : 1);
                due("MIDDLE with it is no more", three <= 3 * one[4] ? 1 : 0, one[5] == -9 ? 0 : 1);
            }
        }
    }

    // ---- the FILM ----

    private static void filmFull() {
        says(38, "bytes (0 .. 127; 8 at most): how many. -4; -6 (127; 8, too)");
        TurnedInSix x = with("(ab)", "00000000 0");
        int[] below = {-1, -128, MIN};
        int[] above = {128, 255, MAX};
        for (int has = 0; has <= 8; has++) {
            for (int i = 0; i < 3; i++) {
                due("film(" + below[i] + ") behind " + has, x.film(below[i]), -4);
                due("film(" + above[i] + ") behind " + has, x.film(above[i]), -6);
            }
            due("count(5)", x.count(5), has);
            due("film(..) behind " + has, x.film(has % 2 == 0 ? 0 : 127), has == 8 ? -6 : has + 1);
        }
        due("film(0), a ninth", x.film(0), -6);
        due("film(127), a ninth", x.film(127), -6);
        refusals(x, 0, 0, 0, 27, 0, 30);
        says(39, "the film stays");
        due("held(0, 0)", x.held(0, 0), 1);
        due("count(5)", x.count(5), 8);
        says(40, "the film has none then");
        due("heldUp(0)", x.heldUp(0), 4 * 117);
        due("count(5)", x.count(5), 0);
        due("film(1)", x.film(1), 1);
    }

    private static void held() {
        says(39, "the place of the first that is more than its time and told more; -9 none");
        for (int place = 0; place < 8; place++) {
            for (int more = 0; more <= 99; more += 33) {
                TurnedInSix x = with("(ab)", "0'0'0'0'0'0'0'0'");
                x.time(0, 1, 3);
                x.after(0, 0, -5);
                int time = place == 0 ? 13 : 8;
                for (int i = 0; i < 8; i++) {
                    x.film(i == place ? time + more : i < place ? 0 : more > 0 ? 8 : 7);
                }
                due("held(0, " + more + ") of as much at " + place, x.held(0, more), -9);
                due("held(0, " + (more - 1) + ") of one more", x.held(0, more - 1), more == 0 ? -4 : place);
                due("count(5)", x.count(5), 8);
            }
        }
        says(39, "more (0 .. 99); -4; -6");
        TurnedInSix y = with("(ab)", "0");
        y.film(127);
        edges("held", 0, 99, more -> y.held(0, more), -4, -6);
        due("held(0, 99), 127 is more than 10 and 99", y.held(0, 99), 0);
        y.time(0, 0, 28);
        due("held(0, 99), 127 is no more than 28 and 99", y.held(0, 99), -9);
        due("held(0, 98)", y.held(0, 98), 0);
        says(39, "too short: where it ends");
        TurnedInSix eight = with("(ab)", "00000000");
        for (int has = 0; has <= 8; has++) {
            due("held(0, 0) of " + has, eight.held(0, 0), has == 8 ? -9 : has);
            eight.film(10);
        }
        says(39, "too long 99");
        TurnedInSix one = with("(ab)", "0 00 0000000");
        for (int has = 0; has <= 8; has++) {
            due("held(0, 0) of " + has, one.held(0, 0), has == 0 ? 0 : has == 1 ? -9 : 99);
            due("held(1, 0) of " + has, one.held(1, 0), has < 2 ? has : has == 2 ? -9 : 99);
            due("held(2, 0) of " + has, one.held(2, 0), has < 7 ? has : has == 7 ? -9 : 99);
            one.film(has == 0 ? 10 : 9);
        }
        says(39, "The first HELD UP, be the film too short or too long");
        TurnedInSix first = with("(ab)", "000 0");
        first.film(11);
        due("held(0, 0), too short", first.held(0, 0), 0);
        due("held(0, 1), too short", first.held(0, 1), 1);
        first.film(99);
        due("held(1, 0), too long", first.held(1, 0), 0);
        due("held(1, 1), too long: what stands beyond is no MOVE's", first.held(1, 1), 99);
        due("held(0, 1)", first.held(0, 1), 1);
        due("held(0, 89), too short", first.held(0, 89), 2);
    }

    private static void heldUp() {
        says(40, "all that is more than times, together; bytes beyond the ROW count whole");
        TurnedInSix x = with("(ab)", "00 00000000");
        x.after(0, 0, -9);
        due("heldUp(0) of none", x.heldUp(0), 0);
        int[][] films = {{10, 1, 0}, {11, 1, 1}, {10, 2, 1}, {9, 0, 0}, {0, 2, 1}, {127, 127, 117 + 126}, {10, 1, 0, 0}, {10, 1, 1, 1}, {9, 0, 127, 127}};
        for (int[] film : films) {
            for (int i = 0; i < film.length - 1; i++) {
                x.film(film[i]);
            }
            due("heldUp(0) of " + Arrays.toString(film), x.heldUp(0), film[film.length - 1]);
            due("count(5)", x.count(5), 0);
        }
        says(40, "a film of eight, its MOVES and beyond");
        for (int i = 0; i < 8; i++) {
            x.film(127);
        }
        due("heldUp(1)", x.heldUp(1), 117 + 7 * 126);
        for (int i = 0; i < 8; i++) {
            x.film(127);
        }
        due("heldUp(0)", x.heldUp(0), 117 + 126 + 6 * 127);
        says(40, "a film that is too short: none lacks");
        x.film(12);
        due("heldUp(1)", x.heldUp(1), 2);
        says(40, "-1 (it stays)");
        x.film(5);
        int[] none = {MIN, -1, 2, MAX};
        for (int row : none) {
            due("heldUp(" + row + ")", x.heldUp(row), -1);
            due("count(5)", x.count(5), 1);
        }
        refusals(x, 4, 0, 0, 0, 0, 0);
        due("held(0, 0), what it was", x.held(0, 0), 1);
    }

    // ---- THE IMAGE ----

    private static void image() {
        says(42, "-3 there is none");
        TurnedInSix x = with("(ab)", "0");
        x.make(0);
        due("on()", x.on(), -3);
        due("on()", x.on(), -3);
        refusals(x, 0, 0, 2, 0, 0, 0);
        due("count(3), nothing changes", x.count(3), 4);
        due("count(0)", x.count(0), 1);
        says(41, "THE IMAGE is taken: how many ROWS");
        TurnedInSix rows = with("(ab)", "");
        for (int many = 0; many <= 10; many++) {
            due("image() of " + many, rows.image(), many);
            due("on() of " + many, rows.on(), many);
            row(rows, "0'");
            due("on() once more: how many ROWS there were", rows.on(), many);
            due("count(1)", rows.count(1), many);
            row(rows, "0");
        }
        says(42, "ON from it all is as then: an image of a new object");
        TurnedInSix y = new TurnedInSix();
        due("image()", y.image(), 0);
        turn(y, "(ab)");
        row(y, "0");
        y.step(1, 1);
        y.make(0);
        y.locks(0, 50);
        y.locks(1, 50);
        due("on()", y.on(), 0);
        due("count(0)", y.count(0), 0);
        due("count(1)", y.count(1), 0);
        due("count(2)", y.count(2), 0);
        due("count(3)", y.count(3), 6);
        due("goes(0, 0)", y.goes(0, 0), -1);
        due("locks(0, 1)", y.locks(0, 1), 0);
        due("locks(1, 1)", y.locks(1, 1), 20);
        due("solves()", y.solves(), 1);
        due("fewest()", y.fewest(), 0);
        due("on() as often as one likes", y.on(), 0);
        due("locks(0, 0)", y.locks(0, 0), 0);
        due("locks(1, 20)", y.locks(1, 20), 20);
        handOfAnImage();
        fullImage();
        laterImage();
    }

    /** Each number of the HAND and of the EYES, changed behind the image and by what on() gave back. */
    private static void handOfAnImage() {
        says(42, "the HAND, LOCKS, LOCK, EYES are as then");
        TurnedInSix x = with("(ab) (bc) (cd)", "0");
        x.step(1, 1);
        x.step(2, 1);
        for (int change = 0; change < 3; change++) {
            for (int turn = 0; turn < 3; turn++) {
                due("time(" + turn + ", 0, ..)", x.time(turn, 0, 50 + turn - change), change == 0 ? 10 : 50 + turn);
                due("time(" + turn + ", 1, ..)", x.time(turn, 1, 60 + turn - change), change == 0 ? 0 : 60 + turn);
                for (int other = 0; other < 3; other++) {
                    int v = 3 * turn + other + 20;
                    due("after(" + turn + ", " + other + ", ..)", x.after(turn, other, v - change), change == 0 ? 0 : v);
                }
            }
            due("locks(0, ..)", x.locks(0, 70 - change), change == 0 ? 0 : 70);
            due("locks(1, ..)", x.locks(1, 80 - change), change == 0 ? 20 : 80);
            due("see(0, ..)", x.see(0, 90 - change), change == 0 ? 0 : 90);
            due("see(1, ..)", x.see(1, 95 - change), change == 0 ? 0 : 95);
            due(change == 0 ? "image()" : "on()", change == 0 ? x.image() : x.on(), 1);
        }
        says(42, "a TURN or a STEP that comes behind ON has what each has at first");
        turn(x, "(de)");
        x.time(3, 0, 99);
        x.time(3, 1, 99);
        x.after(3, 3, 99);
        x.after(0, 3, 99);
        x.after(3, 1, 99);
        x.step(4, 1);
        x.see(2, 99);
        due("on()", x.on(), 1);
        due("time(3, 0, 1)", x.time(3, 0, 1), -1);
        due("see(2, 1)", x.see(2, 1), -1);
        turn(x, "(ef)");
        x.step(8, 0);
        due("time(3, 0, 1)", x.time(3, 0, 1), 10);
        due("time(3, 1, 1)", x.time(3, 1, 1), 0);
        due("after(3, 3, 1)", x.after(3, 3, 1), 0);
        due("after(0, 3, 1)", x.after(0, 3, 1), 0);
        due("after(3, 1, 1)", x.after(3, 1, 1), 0);
        due("after(0, 0, 1)", x.after(0, 0, 1), 20);
        due("see(2, 1)", x.see(2, 1), 0);
        due("goes(6, 4)", x.goes(6, 4), 5);
        due("goes(6, 3)", x.goes(6, 3), 3);
    }

    private static void fullImage() {
        says(42, "TURNS, ROWS, NOW, STEPS are as then: an image of all that there can be");
        TurnedInSix x = with("(ab) (bc) (cd) (de) (ef) (fa)", "0 1 2 3 4 5 0' 1' 2' 012345");
        for (int step = 0; step < 4; step++) {
            x.step(1 << step, 1023);
            x.see(step, 9);
        }
        x.put(555);
        int solves = x.solves();
        int sum = x.sum(77);
        int tried = x.tried();
        due("image()", x.image(), 10);
        x.put(3);
        x.see(1, 88);
        x.time(5, 0, 77);
        due("on()", x.on(), 10);
        due("count(0)", x.count(0), 6);
        due("count(1)", x.count(1), 10);
        due("count(2)", x.count(2), 4);
        due("solves()", x.solves(), solves);
        due("sum(77)", x.sum(77), sum);
        due("tried()", x.tried(), tried);
        due("step(0, 0)", x.step(0, 0), -6);
        due("turn()", x.turn(), -6);
        due("row()", x.row(), -6);
        due("rowOf(9, 5)", x.rowOf(9, 5), 10);
        due("goes(10, 5)", x.goes(10, 5), 0);
        int[] pieces = {4, 3, 0, 2, 5, 1};
        for (int place = 0; place < 6; place++) {
            due("now(" + place + ")", x.now(place), pieces[place]);
        }
    }

    private static void laterImage() {
        says(41, "a later image takes the place of the one that was");
        TurnedInSix x = with("(ab)", "0");
        x.put(5);
        due("image()", x.image(), 1);
        row(x, "00");
        x.put(7);
        due("image()", x.image(), 2);
        x.put(9);
        due("on()", x.on(), 2);
        due("now(5)", x.now(5), 4);
        due("now(3)", x.now(3), 2);
        says(42, "ROWS that come behind ON are read from what comes, not from what was");
        row(x, "0'0'0'");
        due("on()", x.on(), 2);
        due("rowOf(2, -1)", x.rowOf(2, -1), -1);
        due("row()", row(x, "0"), 2);
        due("rowOf(2, -1)", x.rowOf(2, -1), 1);
        due("rowOf(2, 0)", x.rowOf(2, 0), 0);
        due("rowOf(2, 1)", x.rowOf(2, 1), -9);
        says(42, "TURNS that come behind ON are read from what comes, too");
        TurnedInSix again = with("(ab)", "");
        again.image();
        due("turn()", turn(again, "(abcdef)"), 1);
        due("on()", again.on(), 0);
        due("turn()", turn(again, "(bf)"), 1);
        int[] goes = {0, 5, 2, 3, 4, 1};
        for (int place = 0; place < 6; place++) {
            due("goes(2, " + place + ")", again.goes(2, place), goes[place]);
            due("goes(3, " + place + ")", again.goes(3, place), goes[place]);
        }
        due("make(3)", again.make(3), 0);
        due("now(1)", again.now(1), 5);
        due("count(3)", again.count(3), 4);
        says(42, "FEWEST by the TURNS as then");
        TurnedInSix y = with("(ab)", "");
        y.image();
        turn(y, "(bc)");
        y.put(120);
        y.make(2);
        due("fewest()", y.fewest(), 2);
        int[] pieces = {y.now(0), y.now(1), y.now(2)};
        due("a b c are other ones", pieces[0] != 0 && pieces[1] != 1 && pieces[2] != 2 ? 1 : 0, 1);
        y.on();
        due("fewest() of SOLVED", y.fewest(), 0);
        y.put(24);
        due("fewest() of b and c", y.fewest(), -9);
        due("first()", y.first(), -9);
        y.put(120);
        due("fewest() of a and b", y.fewest(), 1);
    }

    private static void whatStaysOverOn() {
        says(42, "THE TAPE and REFUSALS stay");
        for (int has = 0; has <= 16; has++) {
            TurnedInSix x = with("(ab)", "");
            text(x, "(");
            x.image();
            x.row();
            text(x, "0'0'0'0'0'0'0'0'".substring(0, has));
            due("on()", x.on(), 0);
            due("count(6)", x.count(6), has);
            due("row() of what stayed", x.row(), has == 0 ? -20 : 0);
            due("rowOf(0, -1)", x.rowOf(0, -1), has == 0 ? -1 : (has + 1) / 2);
        }
        TurnedInSix x = new TurnedInSix();
        x.on();
        x.image();
        x.now(6);
        x.locks(2, 0);
        x.locks(2, 0);
        x.on();
        x.put(-1);
        x.put(-1);
        x.put(-1);
        x.put(720);
        x.put(720);
        x.put(720);
        x.put(720);
        x.on();
        refusals(x, 1, 2, 1, 3, 0, 4);
        says(42, "THE IMAGE: TURNS, ROWS, NOW, the HAND, LOCKS, LOCK, STEPS, EYES (so no times of FIVE, no film, no FOUND)");
        TurnedInSix y = with("(ab) (bc)", "01 0");
        y.better(1, 1);
        y.five(3);
        y.film(20);
        y.image();
        y.better(0, 2);
        y.five(4);
        y.five(5);
        y.five(6);
        y.film(10);
        due("on()", y.on(), 2);
        due("count(4)", y.count(4), 4);
        due("need(4)", y.need(4), 3);
        due("count(5)", y.count(5), 2);
        due("heldUp(0)", y.heldUp(0), 10);
        due("found(-1)", y.found(-1), 2);
        due("found(1)", y.found(1), 2);
    }

    private static void counts() {
        says(43, "-9 for another what");
        TurnedInSix x = new TurnedInSix();
        int[] others = {MIN, -16, -11, -1, 7, 8, 9, 10, 17, 18, MAX};
        for (int what : others) {
            due("count(" + what + ")", x.count(what), -9);
        }
        refusals(x, 0, 0, 0, 0, 0, 0);
        says(43, "3 PIECES at their own");
        int[] orders = {0, 1, 3, 9, 33, 719};
        int[] own = {6, 4, 3, 2, 1, 0};
        for (int i = 0; i < 6; i++) {
            x.put(orders[i]);
            int same = 0;
            for (int place = 0; place < 6; place++) {
                same += x.now(place) == place ? 1 : 0;
            }
            due("count(3) of " + orders[i], x.count(3), same);
            due("count(3) of " + orders[i], x.count(3), own[i]);
        }
        says(43, "0 TURNS, 1 ROWS, 2 STEPS, 4 times of FIVE, 5 bytes of the film, 6 bytes on THE TAPE: as many as there can be");
        TurnedInSix full = with("(ab) (ab) (ab) (ab) (ab) (ab)", "0 0 0 0 0 0 0 0 0 0");
        for (int i = 0; i < 8; i++) {
            full.step(0, 0);
            full.five(1);
            full.film(1);
        }
        text(full, "0123456789abcdef");
        int[] most = {6, 10, 4, 6, 5, 8, 16};
        for (int what = 0; what < 7; what++) {
            due("count(" + what + ")", full.count(what), most[what]);
        }
    }

    private static void lastCall() {
        says(43, "An object is used for at most 512 calls: the last is as the first");
        TurnedInSix x = new TurnedInSix();
        for (int call = 1; call < 512; call++) {
            x.now(6);
        }
        due("count(11) as call 512", x.count(11), 511);
        TurnedInSix y = with("(abcdef)", "0");
        for (int call = 5; call < 511; call++) {
            y.makeRow(0);
        }
        // 506 times: 2 more than a multiple of 6
        due("now(2)", y.now(2), 0);
    }
}
