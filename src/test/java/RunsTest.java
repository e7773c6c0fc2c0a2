import java.lang.reflect.InvocationTargetException;
import java.lang.reflect.Method;
import java.lang.reflect.Modifier;
import java.util.ArrayList;
import java.util.Arrays;
import java.util.Comparator;
import java.util.List;
import java.util.Random;

/**
 * Promises 1 to 39: runs of 512 calls by lots, answered by the class and by Model alike. The lots are always
 * the same. Most arguments are such as can be met; some lie just outside, or far.
 */
final class RunsTest {
    private static final int RUNS = 400, CALLS = 512;
    /** The methods in the document's order: the first is promise 2. */
    private static final List<String> PROMISED = List.of("count", "wrong", "deed", "amend", "feed", "text", "force",
        "asks", "person", "put", "told", "dusk", "town", "night", "best", "few", "hire", "away", "undone", "pair",
        "guess", "likely", "share", "judge", "kinds", "prides", "whose", "laws", "film", "drawn", "odds", "image",
        "back", "sheet", "cell", "copy", "peopleBy", "taken");

    private final Random lots;
    private final DrumOfGuilt real = new DrumOfGuilt();
    private final Model model = new Model();
    private final List<String> calls = new ArrayList<>();
    private boolean agree = true;

    private RunsTest(long seed) {
        lots = new Random(seed);
    }

    public static void main(String[] args) throws ReflectiveOperationException {
        List<Method> methods = new ArrayList<>(Arrays.asList(DrumOfGuilt.class.getDeclaredMethods()));
        methods.removeIf(method -> !Modifier.isPublic(method.getModifiers()));
        methods.sort(Comparator.comparing(Method::getName));
        int agreed = 0;
        for (int run = 0; run < RUNS; run++) {
            RunsTest test = new RunsTest(20261118L + run);
            test.run(methods);
            agreed += test.agree ? 1 : 0;
        }
        Checks.due("runs that agree with the model", agreed, RUNS);
        Checks.finish("RunsTest");
    }

    private void run(List<Method> methods) throws ReflectiveOperationException {
        int people = lots.nextInt(8);
        while (agree && calls.size() < people) {
            both("person", number(60), number(100));
        }
        while (agree && calls.size() < CALLS) {
            int lot = lots.nextInt(100);
            if (lot < 6) {
                fedText();
            } else if (lot < 14) {
                likelyWrong();
            } else if (lot < 20) {
                toldEvening();
            } else {
                Method method = methods.get(lots.nextInt(methods.size()));
                // Nights, images and the like would leave little to ask of.
                boolean sparse = List.of("night", "back", "text", "sheet", "amend").contains(method.getName());
                if (!sparse || lots.nextInt(4) == 0) {
                    both(method.getName(), arguments(method));
                }
            }
        }
    }

    private void both(String name, int... arguments) throws ReflectiveOperationException {
        if (!agree || calls.size() >= CALLS) {
            return;
        }
        Object[] given = Arrays.stream(arguments).boxed().toArray();
        Class<?>[] types = new Class<?>[given.length];
        Arrays.fill(types, int.class);
        long got = 0;
        String thrown = "";
        try {
            got = ((Number) DrumOfGuilt.class.getMethod(name, types).invoke(real, given)).longValue();
        } catch (InvocationTargetException exception) {
            thrown = " (" + exception.getCause() + ")";
        }
        long want = ((Number) Model.class.getMethod(name, types).invoke(model, given)).longValue();
        calls.add(name + Arrays.toString(arguments) + " = " + want);
        if (got != want || !thrown.isEmpty()) {
            agree = false;
            System.out.println("after " + calls);
            String promise = PROMISED.indexOf(name) + 2 + " " + name;
            Checks.due(promise + ": the last of these" + thrown, got, thrown.isEmpty() ? want : ~got);
        }
    }

    /** A number below size mostly; else just outside, or far. */
    private int number(int size) {
        int[] others = {-1, size, size + 1, -2, Integer.MAX_VALUE, Integer.MIN_VALUE, Integer.MAX_VALUE - 1};
        return size > 0 && lots.nextInt(24) != 0 ? lots.nextInt(size) : others[lots.nextInt(others.length)];
    }

    private int somebody() {
        return number(real.count(0));
    }

    private int someWrong() {
        return number(real.count(1));
    }

    private int[] arguments(Method method) {
        switch (method.getName()) {
            case "count": return new int[] {number(6)};
            case "wrong": return new int[] {number(64), number(10), number(64)};
            case "deed": return new int[] {someWrong(), number(3)};
            case "amend": return new int[] {someWrong()};
            case "feed": return new int[] {number(6), number(256), number(256), number(256), number(256), number(256)};
            case "force": return new int[] {number(real.count(3))};
            case "asks": return new int[] {number(3), somebody(), someWrong()};
            case "person": return new int[] {number(60), number(100)};
            case "put": return new int[] {somebody(), number(2), number(lots.nextBoolean() ? 100 : 1000)};
            case "told": return new int[] {somebody(), number(6)};
            case "dusk": return new int[] {somebody(), number(4)};
            case "town": return new int[] {number(4)};
            case "best":
            case "hire": return new int[] {somebody(), number(2)};
            case "few": return new int[] {somebody()};
            case "away":
            case "undone":
            case "pair": return new int[] {number(2)};
            case "guess": {
                int p = somebody();
                return new int[] {p, someBeats(p), number(2)};
            }
            case "likely": {
                int p = somebody();
                return new int[] {p, someBeats(p), someWrong(), number(2)};
            }
            case "share": return new int[] {somebody(), number(2)};
            case "judge":
            case "laws":
            case "film": return new int[] {number(4)};
            case "kinds":
            case "prides": return new int[] {number(4), somebody(), number(2)};
            case "whose": return new int[] {number(4), someWrong(), number(2)};
            case "drawn": return new int[] {number(100000), number(2)};
            case "odds": return new int[] {number(100000), number(41), somebody(), number(2)};
            case "sheet": return new int[] {number(4), number(4) - 1, lots.nextBoolean() ? number(7) : number(41)};
            case "cell": return new int[] {number(4), number(6), number(lots.nextBoolean() ? 70000 : 60)};
            case "copy": return new int[] {number(4), number(6), number(4), number(6), number(6)};
            case "peopleBy": return new int[] {number(4), number(3), number(8), number(7)};
            case "taken": return new int[] {number(16), number(7)};
            default: return new int[0];
        }
    }

    /** Mostly as many as one has, or few. */
    private int someBeats(int p) {
        int lot = lots.nextInt(8);
        return lot < 5 ? model.dusk(p, 0) : lot < 7 ? number(30) : number(1000);
    }

    private void likelyWrong() throws ReflectiveOperationException {
        int everybody = (1 << real.count(0)) - 1;
        int doers = lots.nextInt(64) & everybody;
        doers = lots.nextBoolean() ? Integer.lowestOneBit(doers) : doers;
        both("wrong", doers, 1 + lots.nextInt(9), (lots.nextInt(64) | lots.nextInt(64)) & everybody & ~doers);
    }

    /** A sheet that tells of an evening, perhaps with one of the beats otherwise, and what is asked of it. */
    private void toldEvening() throws ReflectiveOperationException {
        int s = lots.nextInt(4);
        both("film", s);
        if (lots.nextInt(3) == 0) {
            both("cell", s, number(6), number(12));
        }
        both("kinds", s, somebody(), number(2));
        both("prides", s, somebody(), number(2));
        both("whose", s, someWrong(), number(2));
        both("laws", s);
        both("judge", s);
    }

    private void fedText() throws ReflectiveOperationException {
        StringBuilder text = new StringBuilder();
        for (String key : List.of("strokes", "doubts", "pays")) {
            text.append(key).append(lots.nextInt(8) == 0 ? "\n" : " ");
            expression(text, 3);
            text.append(lots.nextBoolean() ? " ; " : ";");
        }
        if (lots.nextInt(3) == 0) {
            spoil(text);
        }
        text.setLength(Math.min(text.length(), 170));
        for (int i = 0; i < text.length(); i += 5) {
            int[] bytes = {0, 0, 0, 0, 0, 0};
            int n = Math.min(5, text.length() - i);
            bytes[0] = n;
            for (int j = 0; j < n; j++) {
                bytes[j + 1] = text.charAt(i + j);
            }
            both("feed", bytes);
        }
        both("text");
        both("force", Math.max(0, real.count(3) - 1));
    }

    private void expression(StringBuilder text, int depth) {
        int lot = depth == 0 ? lots.nextInt(4) : lots.nextInt(14);
        String[] names = {"weight", "shared", "seen", "day", "pride", "more"};
        String[] between = {" or ", " and ", "<", "=", "+", "-", "*", " + ", " - ", " * "};
        if (lot < 2) {
            text.append(lots.nextInt(lots.nextInt(5) == 0 ? 10000 : 12));
        } else if (lot < 4) {
            text.append(names[lots.nextInt(names.length)]);
        } else if (lot < 10) {
            expression(text, depth - 1);
            text.append(between[lots.nextInt(between.length)]);
            expression(text, depth - 1);
        } else if (lot < 11) {
            text.append(" not ");
            expression(text, depth - 1);
        } else if (lot < 12) {
            text.append("-");
            expression(text, depth - 1);
        } else {
            text.append("(");
            expression(text, depth - 1);
            text.append(")");
        }
    }

    private void spoil(StringBuilder text) {
        String[] pieces = {"", "(", ")", ";", "+", "-", "*", "<", "=", " ", "\n", "not ", "not(", " or ", " and ",
            "seen", "1", "12345", "pays", "x", "A", "\t", "--", "((", "))", String.valueOf((char) 200)};
        int at = lots.nextInt(text.length());
        int upTo = Math.min(text.length(), at + lots.nextInt(3));
        text.replace(at, upTo, pieces[lots.nextInt(pieces.length)]);
    }
}
