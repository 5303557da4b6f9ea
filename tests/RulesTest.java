import java.io.IOException;
import java.lang.reflect.Constructor;
import java.lang.reflect.Field;
import java.lang.reflect.InvocationTargetException;
import java.lang.reflect.Method;
import java.lang.reflect.Modifier;
import java.nio.file.Files;
import java.nio.file.Path;
import java.util.ArrayList;
import java.util.HashSet;
import java.util.List;
import java.util.Random;
import java.util.Set;
import java.util.TreeSet;
import java.util.regex.Matcher;
import java.util.regex.Pattern;

// The rules of LANGUAGE.md that a test can see: the face of the class, what its source must not hold, and that no call
// throws or fails to end, for any arguments in any state. Run from the project's folder.
public final class RulesTest {
    private static final String[] FACE = {"feed(int,long)", "turn()", "row()", "goes(int,int)", "rowOf(int,int)",
        "does(int,int)", "order(int)", "keeps(int)", "now(int)", "make(int)", "makeRow(int)", "put(int)",
        "time(int,int,int)", "after(int,int,int)", "locks(int,int)", "kind(int,int)", "seconds(int)", "mean(int)",
        "drawn(int,int)", "better(int,int)", "found(int)", "fewest()", "first()", "step(int,int)", "tried()",
        "triedRow(int)", "solves()", "lacks()", "luck(int,int)", "see(int,int)", "sum(int)", "bestPace()", "learn(int)",
        "five(int)", "middle(int)", "need(int)", "film(int)", "held(int,int)", "heldUp(int)", "image()", "on()",
        "count(int)"};
    private static final String[] FORBIDDEN = {"throw", "throws", "try", "catch", "synchronized", "assert", "import",
        "package", "volatile", "protected", "instanceof", "record", "var", "System\\.(?!arraycopy)", "->", "::", "@",
        "\\w+Exact\\(", "Float", "Double", "Random", "nanoTime", "currentTimeMillis", "\" *\\+", "\\+ *\""};
    /** What of rule 4 the source uses: static functions, no constants (Integer.MAX_VALUE is none of them). */
    private static final Set<String> LIBRARY = Set.of("Math.max", "Math.min", "Integer.bitCount", "System.arraycopy");
    private static int wrong = 0;

    private static void must(boolean holds, String what) {
        if (!holds) {
            wrong++;
            System.out.println("does not hold: " + what);
        }
    }

    public static void main(String[] args) throws IOException, ReflectiveOperationException {
        face();
        String source = Files.readString(Path.of("src/main/java/TurnedInSix.java"));
        source(source.replaceAll("(?s)/\\*.*?\\*/", "").replaceAll("//[^\n]*", ""));
        for (int run = 0; run < 60; run++) {
            anyCalls(run);
        }
        dearestCalls();
        System.out.println(wrong == 0 ? "all rules hold" : wrong + " rules do not hold");
        if (wrong != 0) {
            System.exit(1);
        }
    }

    private static void face() {
        Class<?> type = TurnedInSix.class;
        must(Modifier.isPublic(type.getModifiers()) && Modifier.isFinal(type.getModifiers()), "public final class");
        Set<String> due = new TreeSet<>(List.of(FACE));
        Set<String> names = new HashSet<>();
        Set<String> found = new TreeSet<>();
        for (Method method : type.getDeclaredMethods()) {
            if (Modifier.isPrivate(method.getModifiers())) {
                continue;
            }
            List<String> kinds = new ArrayList<>();
            for (Class<?> kind : method.getParameterTypes()) {
                kinds.add(kind.getName());
            }
            found.add(method.getName() + "(" + String.join(",", kinds) + ")");
            names.add(method.getName());
            must(Modifier.isPublic(method.getModifiers()) && !Modifier.isStatic(method.getModifiers()), "public " + method);
            must(method.getReturnType() == int.class, "answers an int: " + method);
            must(method.getExceptionTypes().length == 0, "throws nothing: " + method);
        }
        must(found.equals(due), "the face is " + due + ", not " + found);
        Constructor<?>[] made = type.getDeclaredConstructors();
        must(made.length == 1 && made[0].getParameterCount() == 0 && Modifier.isPublic(made[0].getModifiers()), "one constructor");
        for (Field field : type.getDeclaredFields()) {
            must(Modifier.isPrivate(field.getModifiers()), "private field " + field);
        }
        for (Class<?> inside : type.getDeclaredClasses()) {
            must(Modifier.isStatic(inside.getModifiers()), "static " + inside);
            must(inside.getDeclaredFields().length <= 20, "some twenty fields: " + inside);
            for (Method method : inside.getDeclaredMethods()) {
                must(!names.contains(method.getName()), "no name of the face: " + method);
                must(method.getParameterCount() <= 7, "seven parameters: " + method);
            }
        }
        for (Method method : type.getDeclaredMethods()) {
            must(!Modifier.isPrivate(method.getModifiers()) || !names.contains(method.getName()), "no name of the face: " + method);
        }
        must(type.getDeclaredClasses().length <= 12, "some twelve classes");
    }

    private static void source(String bare) {
        for (String word : FORBIDDEN) {
            String pattern = Character.isLetter(word.charAt(0)) && word.matches("\\w+") ? "\\b" + word + "\\b" : word;
            must(!Pattern.compile(pattern).matcher(bare).find(), "without " + word);
        }
        // All that there is is made with the object: no call makes any.
        Matcher made = Pattern.compile("[^\n]*\\bnew\\b[^\n]*").matcher(bare);
        while (made.find()) {
            must(made.group().matches(" +(private )?(final )[\\w\\[\\]]+ \\w+ = new .*;"), "made with the object: " + made.group());
        }
        must(bare.chars().allMatch(sign -> sign < 128), "signs 1 to 127");
        Matcher used = Pattern.compile("\\b[A-Z]\\w*\\.\\w+").matcher(bare);
        while (used.find()) {
            must(LIBRARY.contains(used.group()), "of the library only what rule 4 tells: " + used.group());
        }
        Matcher loops = Pattern.compile("\\bwhile \\((.*)\\) \\{").matcher(bare);
        while (loops.find()) {
            must(loops.group(1).matches(".*(often < ORDERS|at > 0|divisor > 1).*"), "a loop with a counter: " + loops.group());
        }
        shortMethods(bare.split("\n"));
    }

    /** Methods and constructors stay at some sixty lines; they begin and end at the same indentation. */
    private static void shortMethods(String[] lines) {
        int methods = 0;
        for (int from = 0; from < lines.length; from++) {
            if (!lines[from].matches("( {4}| {8})[\\w\\[\\] ]+\\([\\w\\[\\], ]*\\) \\{")) {
                continue;
            }
            methods++;
            String end = lines[from].replaceAll("\\S.*", "}");
            int to = from;
            while (to < lines.length && !lines[to].equals(end)) {
                to++;
            }
            must(to < lines.length && to - from < 60, "some sixty lines: " + lines[from].trim());
        }
        must(methods > 80, "methods were looked at, not " + methods);
    }

    private static int any(Random random) {
        int[] edges = {0, 1, -1, 2, 5, 6, 8, 9, 63, 64, 719, 720, 1023, 1024, Integer.MIN_VALUE, Integer.MAX_VALUE, -9, 100, 10};
        return switch (random.nextInt(4)) {
            case 0 -> random.nextInt();
            case 1 -> edges[random.nextInt(edges.length)];
            default -> random.nextInt(7);
        };
    }

    /** More calls than an object is used for, with any arguments. */
    private static void anyCalls(int run) throws ReflectiveOperationException {
        Random random = new Random(run);
        TurnedInSix x = new TurnedInSix();
        String[] texts = {"(ab)", "(bc)", "(abcdef)", "0", "1'", "0'12", "(ab)(cd)", "00000000"};
        Method[] methods = TurnedInSix.class.getDeclaredMethods();
        java.util.Arrays.sort(methods, (one, other) -> one.toString().compareTo(other.toString()));
        for (int call = 0; call < 1200; call++) {
            if (random.nextInt(8) == 0) {
                String text = texts[random.nextInt(texts.length)];
                feed(x, text);
                if (text.charAt(0) == '(') {
                    x.turn();
                } else {
                    x.row();
                }
                continue;
            }
            Method method = methods[random.nextInt(methods.length)];
            if (!Modifier.isPublic(method.getModifiers())) {
                continue;
            }
            Object[] arguments = new Object[method.getParameterCount()];
            for (int i = 0; i < arguments.length; i++) {
                arguments[i] = method.getParameterTypes()[i] == long.class ? (Object) random.nextLong() : (Object) any(random);
            }
            try {
                method.invoke(x, arguments);
            } catch (InvocationTargetException thrown) {
                must(false, "run " + run + ", call " + call + ": " + method + " threw " + thrown.getCause());
                return;
            }
        }
    }

    private static void feed(TurnedInSix x, String text) {
        long bytes = 0;
        for (int i = text.length() - 1; i >= 0; i--) {
            bytes = bytes << 8 | text.charAt(i);
        }
        x.feed(text.length(), bytes);
    }

    /** 512 of the dearest calls on one object end soon: searches among equal turns, ways that all try all rows. */
    private static void dearestCalls() {
        TurnedInSix x = new TurnedInSix();
        for (int i = 0; i < 6; i++) {
            feed(x, "(ab)");
            x.turn();
            x.time(i, 0, 1);
        }
        for (int i = 0; i < 10; i++) {
            feed(x, "0000000");
            x.row();
        }
        for (int i = 0; i < 4; i++) {
            x.step(i == 3 ? 3 : 0, 1008);
        }
        long answers = 0;
        for (int call = 0; call < 230; call++) {
            answers += x.better(0, 5) + x.learn(call % 4) + x.solves() + x.lacks();
        }
        must(answers != 0, "dear calls answer");
    }
}
