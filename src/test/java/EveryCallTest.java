import java.lang.reflect.InvocationTargetException;
import java.lang.reflect.Method;
import java.util.ArrayList;
import java.util.Arrays;
import java.util.HashMap;
import java.util.List;
import java.util.Map;
import support.Checks;
import support.SlowLoft;

/**
 * In some states each call, with all combinations of the edges of its arguments and of wrong ones: what it answers or
 * throws, and all that can be told of the object afterwards, is compared with what SlowLoft tells.
 */
public final class EveryCallTest {
    private static final Checks CHECKS = new Checks();
    private static final int LEAST = Integer.MIN_VALUE;
    private static final int MOST = Integer.MAX_VALUE;
    private static final int MOST_CALLS = 512;
    private static final Map<String, Method> OF_ROPELOFT = methodsOf(Ropeloft.class);
    private static final Map<String, Method> OF_SLOW_LOFT = methodsOf(SlowLoft.class);

    private record Step(String name, int... args) {
        String told() {
            return name + Arrays.toString(args);
        }
    }

    private final String name;
    private final List<Step> history;
    private final List<Step> looks;
    private final String unchanged;

    private EveryCallTest(String name, List<Step> history, int lines, int netSize) {
        this.name = name;
        this.history = history;
        this.looks = looks(lines, netSize);
        unchanged = lookedAt(slowLoft());
        CHECKS.begin(name);
        CHECKS.due("calls of one object", Math.min(MOST_CALLS, history.size() + 1 + looks.size()),
            history.size() + 1 + looks.size());
    }

    public static void main(String[] args) {
        new EveryCallTest("a new object", new ArrayList<>(), 0, 0).tryAll(0, 0, 0, false);
        new EveryCallTest("some lines, rigs, crossings and nets", some(), 27, 3).tryAll(27, 4, 2, true);
        new EveryCallTest("room for one more", many(59, 11, 59, 4), 59, 1).tryAll(59, 11, 4, false);
        new EveryCallTest("no room", many(60, 12, 60, 5), 60, 1).tryAll(60, 12, 5, false);
        CHECKS.end();
    }

    // ---- the states, and what can be told of them

    private static List<Step> steps(String text) {
        List<Step> steps = new ArrayList<>();
        for (String call : text.split(";")) {
            String[] words = call.strip().split(" ");
            int[] args = new int[words.length - 1];
            for (int i = 0; i < args.length; i++) {
                args[i] = Integer.parseInt(words[i + 1]);
            }
            steps.add(new Step(words[0], args));
        }
        return steps;
    }

    /** Lines of all states, hands and lengths; strands that are balanced, and one, 16, that is not. */
    private static List<Step> some() {
        return steps("spin 0 12 0 100; spin 0 12 0 60; spin 0 12 0 60; spin 0 12 1 1; spin 0 12 1 1; spin 0 12 1 9;"
            + "spin 1 30 0 10000; spin 0 12 0 10; load 7 81; spin 0 12 0 10; load 8 80; load 8 72; load 8 64;"
            + "spin 0 12 1 50; spin 0 12 1 50; spin 0 12 1 50; lay 9 10 11 12;"
            + "spin 0 12 1 50; spin 0 12 1 50; spin 0 15 1 50; lay 13 14 15 5; cut 12 20;"
            + "spin 0 12 0 8; cut 18 8; splice 1 2 3; spin 0 12 1 50; spin 0 12 1 50; spin 0 12 1 50;"
            + "lay 21 22 23 12; spin 0 12 1 30; spin 0 2 0 3; fibre 2 500 50; sun 20; load 0 30;"
            + "rig 0 2 10; rig 12 3 50; rig 5 1 0; rig 25 6 5; load 25 100;"
            + "braid 4; cross 0 1; cross 1 0; cross 2 1; cross 0 1;"
            + "net 3 3; tear 0 0 0 1; tear 0 1 1 0; hole 0 1 1 3 3; net 4 2; hole 1 0 0 2 2");
    }

    private static List<Step> many(int lines, int rigs, int crossings, int nets) {
        List<Step> steps = new ArrayList<>();
        for (int line = 0; line < lines; line++) {
            steps.add(new Step("spin", line % 4, 12, line % 2, line + 1));
        }
        for (int rig = 0; rig < rigs; rig++) {
            steps.add(new Step("rig", rig, rig % 6 + 1, rig * 4));
        }
        steps.addAll(steps("load 3 81; load 5 80; load 5 72; load 5 64; load 7 40; braid 3"));
        for (int i = 0; i < crossings; i++) {
            steps.add(new Step("cross", i % 2, i % 3 == 0 ? 1 : 0));
        }
        for (int net = 0; net < nets; net++) {
            steps.add(new Step("net", net + 1, 5));
            steps.add(new Step("hole", net, 0, 1, 1, 3));
        }
        return steps;
    }

    private static List<Step> looks(int lines, int netSize) {
        List<Step> looks = new ArrayList<>();
        int[] few = {2, 6, 7};
        for (int line = 0; line <= lines; line++) {
            for (int what = 0; what < (lines > 30 ? few.length : 10); what++) {
                looks.add(new Step("lineOf", line, lines > 30 ? few[what] : what));
            }
        }
        looks.add(new Step("yarns", lines));
        looks.addAll(steps("pull 0 70; pull 4 70; pull 11 70; pull 12 70; lift 2 5; lineOf 5 6; orderOf; orderAnew"));
        for (int carrier = 0; carrier < 4; carrier++) {
            looks.add(new Step("carrier", carrier));
            looks.add(new Step("over", carrier, (carrier + 1) % 3));
        }
        looks.addAll(steps("twines 0; twinesAnew 0; twines 1; twinesAnew 1; twines 4; twinesAnew 4"));
        for (int square = 0; square < netSize * netSize; square++) {
            int row = square / netSize;
            int column = square % netSize;
            looks.add(new Step("hole", 0, row, column, row + 1, column + 1));
        }
        looks.addAll(steps("hole 1 0 0 2 10; hole 1 2 0 10 10; hole 4 0 0 10 10; cross 1 1; braid 3"));
        looks.addAll(steps("rig 0 1 0; net 1 1"));
        for (int fibre = 0; fibre < 4; fibre++) {
            looks.add(new Step("spin", fibre, 12, 0, 5));
            looks.add(new Step("lineOf", Math.min(59, lines + fibre), 3));
        }
        return looks;
    }

    // ---- to play calls

    private static Map<String, Method> methodsOf(Class<?> of) {
        Map<String, Method> methods = new HashMap<>();
        for (Method method : of.getDeclaredMethods()) {
            methods.put(method.getName(), method);
        }
        methods.putIfAbsent("orderAnew", methods.get("orderOf"));
        methods.putIfAbsent("twinesAnew", methods.get("twines"));
        return methods;
    }

    private static String answer(Object loft, Step step) {
        Method method = (loft instanceof Ropeloft ? OF_ROPELOFT : OF_SLOW_LOFT).get(step.name);
        Class<?>[] types = method.getParameterTypes();
        Object[] args = new Object[types.length];
        for (int i = 0; i < args.length; i++) {
            args[i] = types[i] == boolean.class ? (Object) (step.args[i] != 0) : (Object) step.args[i];
        }
        try {
            return String.valueOf(method.invoke(loft, args));
        } catch (InvocationTargetException e) {
            return "throws " + e.getCause().getClass().getName();
        } catch (IllegalAccessException e) {
            throw new IllegalStateException(e);
        }
    }

    private Object slowLoft() {
        return played(new SlowLoft());
    }

    private Object played(Object loft) {
        for (Step step : history) {
            answer(loft, step);
        }
        return loft;
    }

    private String lookedAt(Object loft) {
        StringBuilder told = new StringBuilder();
        for (Step look : looks) {
            told.append(answer(loft, look)).append(' ');
        }
        return told.toString();
    }

    private void tryCall(Step step) {
        Object slow = slowLoft();
        String due = answer(slow, step);
        Object loft = played(new Ropeloft());
        CHECKS.dueText(step.told(), answer(loft, step), due);
        String dueBehind = due.startsWith("throws") ? unchanged : lookedAt(slow);
        CHECKS.dueText("all behind " + step.told(), lookedAt(loft), dueBehind);
    }

    private void tryEach(String call, int[]... values) {
        CHECKS.begin(name + ", " + call);
        int[] args = new int[values.length];
        int all = 1;
        for (int[] each : values) {
            all *= each.length;
        }
        for (int number = 0; number < all; number++) {
            int left = number;
            for (int i = 0; i < values.length; i++) {
                args[i] = values[i][left % values[i].length];
                left /= values[i].length;
            }
            tryCall(new Step(call, args.clone()));
        }
    }

    // ---- the values

    private static int[] of(int... values) {
        return values;
    }

    private static int[] upTo(int count) {
        int[] values = new int[count + 4];
        for (int i = 0; i <= count; i++) {
            values[i] = i;
        }
        values[count + 1] = -1;
        values[count + 2] = LEAST;
        values[count + 3] = MOST;
        return values;
    }

    private void tryAll(int lines, int rigs, int nets, boolean isDeep) {
        int[] line = isDeep ? upTo(lines) : of(-1, 0, 3, 5, 58, 59, 60, MOST);
        int[] few = isDeep ? of(-1, 0, 3, 4, 5, 7, 8, 9, 12, 16, 17, 20, 24, lines) : of(-1, 0, 1, 2, 3, 58, 59, 60);
        tryLines(line, few);
        tryRigs(line, upTo(rigs));
        tryBraid();
        tryNets(upTo(nets));
    }

    private void tryLines(int[] line, int[] few) {
        tryEach("fibre", of(LEAST, -1, 0, 3, 4, MOST), of(LEAST, 0, 1, 1000, 1001), of(0, 1, 100, 101, MOST));
        tryEach("spin", of(-1, 0, 2, 4, MOST), of(LEAST, 0, 1, 30, 31), of(-1, 0, 1, 2), of(0, 1, 10000, 10001));
        tryEach("lay", few, few, few, of(0, 1, 30, 31));
        tryEach("cut", line, of(LEAST, -1, 0, 1, 2, 9, 10, 24, 25, 59, 60, 61, 10000, 10001, MOST));
        tryEach("order", of(LEAST, -1, 0, 1, 2, 3, 4, MOST),
            of(LEAST, 0, 1, 9, 10, 24, 44, 45, 100, 10000, 10001, MOST));
        tryEach("splice", line, few, of(LEAST, 0, 1, 2, 3, 6, 7, MOST));
        tryEach("load", line, of(LEAST, -1, 0, 1, 8, 70, 79, 80, 81, 190, 1000000, 1000001, MOST));
        tryEach("sun", of(LEAST, -1, 0, 1, 9, 10, 19, 999, 1000, 1001, MOST));
        tryEach("lineOf", line, of(LEAST, -1, 0, 1, 2, 3, 4, 5, 6, 7, 8, 9, 10, MOST));
        tryEach("yarns", line);
    }

    private void tryRigs(int[] line, int[] rig) {
        int[] load = of(LEAST, -1, 0, 1, 15, 16, 40, 100, 1000000, 1000001);
        tryEach("rig", line, of(0, 1, 6, 7), of(-1, 0, 50, 51, MOST));
        tryEach("pull", rig, load);
        tryEach("lift", rig, load);
        tryEach("series", rig, rig, of(-1, 0, 1, 30, 1000001));
        tryEach("holds", of(-1, 0, 20, 21), of(-1, 0, 100, 101), of(-1, 0, 1000, 1001), of(-1, 0, 50, 51));
    }

    private void tryBraid() {
        int[] place = of(LEAST, -1, 0, 1, 2, 3, 4, 7, 8, MOST);
        tryEach("braid", of(LEAST, -1, 0, 2, 3, 4, 8, 9, MOST));
        tryEach("cross", place, of(0, 1));
        tryEach("carrier", place);
        tryEach("orderOf");
        tryEach("orderAnew");
        tryEach("over", place, place);
    }

    private void tryNets(int[] net) {
        int[] place = of(LEAST, -1, 0, 1, 2, 3, 4, 5, 10, 11, MOST);
        int[] edge = of(-1, 0, 2, 10, 11);
        tryEach("net", of(LEAST, 0, 1, 2, 10, 11, MOST), of(LEAST, 0, 1, 2, 10, 11, MOST));
        tryEach("tear", net, place, place, of(0, 1));
        tryEach("hole", net, edge, edge, edge, edge);
        tryEach("twines", net);
        tryEach("twinesAnew", net);
        tryEach("mend", net, of(LEAST, -1, 0, 1, 2, 3, 200, 201, MOST));
        tryEach("join", of(LEAST, 0, 1, 10000, 10001), of(LEAST, 0, 1, 10000, 10001), of(-1, 0, 1, 9999, 10000, MOST));
        tryEach("depth", of(0, 1, 1000, 1001), of(0, 1, 1000, 1001), of(0, 1, 99, 100));
    }
}
