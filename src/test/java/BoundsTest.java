import java.lang.reflect.Method;
import java.util.LinkedHashMap;
import java.util.Map;

/**
 * Every number of every call, on both sides of its bounds and far beyond, on objects that are empty, begun and
 * full: what is not as told is BAD, ahead of NO and FULL, and changes nothing; what is as told is not BAD.
 */
public final class BoundsTest {
    /** The last as told and the first that is not, of every bound that the document names. */
    private static final int[] NEAR = {Integer.MIN_VALUE, -501, -500, -61, -60, -3, -2, -1, 0, 1, 2, 3, 4, 5, 6, 7, 8, 9,
        10, 11, 15, 16, 50, 51, 59, 60, 61, 98, 99, 100, 101, 127, 128, 159, 160, 500, 501, 1000, 1001, 9999, 10000,
        Integer.MAX_VALUE};
    private static final int[] FEW = {Integer.MIN_VALUE, -1, 0, 3, 10, 100, Integer.MAX_VALUE};

    private interface Told {
        boolean asTold(State s, int[] v);
    }

    private record Rule(long bad, Told told, int... base) {
    }

    /** Built anew for every call that is tried. */
    private record State(int players, int meetings, int year) {
        RopeRanks build() {
            RopeRanks x = new RopeRanks();
            for (int p = 0; p < players; p++) {
                x.player(p);
            }
            x.image(0);
            for (int i = 0; i < meetings; i++) {
                int a = i % players;
                x.meeting(i == 0 ? 5 : year, a, (a + 1) % players, i % 3, i % 7 == 0);
            }
            if (players > 0) {
                x.moves(0, 1, 2, 3);
                x.share(0, 0);
            }
            x.write(0, 'e');
            return x;
        }

        boolean isPlayer(int p) {
            return within(p, 0, players - 1);
        }

        boolean arePair(int p, int q) {
            return isPlayer(p) && isPlayer(q) && p != q;
        }
    }

    private static final State[] STATES = {new State(0, 0, 0), new State(1, 0, 0), new State(3, 2, 7), new State(10, 2, 98),
        new State(10, 59, 99), new State(9, 60, 50), new State(10, 60, 99)};

    private static int wrong = 0;
    private static int tried = 0;

    public static void main(String[] args) throws ReflectiveOperationException {
        Map<String, Rule> rules = new LinkedHashMap<>();
        addPlayersAndMeetings(rules);
        addSystems(rules);
        addStrengths(rules);
        addQuestions(rules);
        for (Method method : RopeRanks.class.getDeclaredMethods()) {
            if (java.lang.reflect.Modifier.isPublic(method.getModifiers()) && method.getParameterCount() > 0) {
                tryAll(method, rules.get(method.getName()));
            }
        }
        System.out.println(wrong == 0 ? tried + " calls by their bounds are as due" : wrong + " answers are not as due");
        if (wrong != 0) {
            System.exit(1);
        }
    }

    private static boolean within(int v, int least, int most) {
        return least <= v && v <= most;
    }

    private static boolean isYear(int year) {
        return within(year, 0, 99);
    }

    private static boolean isSystem(int system) {
        return within(system, 0, 3);
    }

    private static void addPlayersAndMeetings(Map<String, Rule> rules) {
        rules.put("player", new Rule(-2, (s, v) -> within(v[0], -60, 99), 0));
        rules.put("meeting", new Rule(-2, (s, v) -> within(v[0], s.year, 99) && s.arePair(v[1], v[2]) && within(v[3], 0, 2),
            99, 0, 1, 2, 0));
        rules.put("mark", new Rule(-2, (s, v) -> within(v[0], 0, s.meetings - 1) && within(v[1], 0, 1), 1, 0, 1));
    }

    private static void addSystems(Map<String, Rule> rules) {
        rules.put("first", new Rule(-2, (s, v) -> isSystem(v[0]) && within(v[1], 0, 9999), 1, 7));
        rules.put("write", new Rule(-2, (s, v) -> isSystem(v[0]) && within(v[1], 0, 127), 0, 'x'));
        rules.put("erase", new Rule(-2, (s, v) -> isSystem(v[0]), 0));
        rules.put("fault", new Rule(-2, (s, v) -> isSystem(v[0]), 0));
        rules.put("number", new Rule(-100000, (s, v) -> isSystem(v[0]) && s.isPlayer(v[1]) && within(v[2], 0, s.meetings),
            0, 0, 0));
        rules.put("paid", new Rule(-100000, (s, v) -> isSystem(v[0]) && isYear(v[1]), 0, 5));
        rules.put("creep", new Rule(-2, (s, v) -> isSystem(v[0]) && isYear(v[1]) && isYear(v[2]) && v[2] > v[1], 0, 5, 7));
        rules.put("hiding", new Rule(-100000, (s, v) -> isSystem(v[0]) && s.isPlayer(v[1]) && isYear(v[2]), 0, 0, 5));
        rules.put("foretold", new Rule(-2, (s, v) -> isSystem(v[0]), 0));
    }

    private static void addStrengths(Map<String, Rule> rules) {
        rules.put("shape", new Rule(-100000, (s, v) -> within(v[0], 0, 159) && within(v[1], -500, 500), 30, 6));
        rules.put("wide", new Rule(-2, (s, v) -> within(v[0], 1, 1000) && within(v[1], 0, 500), 30, 6));
        rules.put("span", new Rule(-100000, (s, v) -> s.arePair(v[0], v[1]) && within(v[2], 0, 1), 0, 1, 0));
        rules.put("island", new Rule(-2, (s, v) -> v[0] == -1 || s.isPlayer(v[0]), 0));
        rules.put("rope", new Rule(-10, (s, v) -> s.isPlayer(v[0]) && s.isPlayer(v[1]) && v[2] >= -1, 0, 1, 0));
    }

    private static void addQuestions(Map<String, Rule> rules) {
        rules.put("best", new Rule(-2, (s, v) -> isSystem(v[0]) && within(v[1], 0, 2) && (v[1] != 1 || within(v[2], 1, 9)),
            0, 1, 1));
        rules.put("ways", new Rule(-2, (s, v) -> v[0] == -1 || s.isPlayer(v[0]), 0));
        rules.put("even", new Rule(-2, (s, v) -> s.arePair(v[0], v[1]) && 0 < v[2] && v[2] < v[3] && v[3] <= 9, 0, 1, 4, 5));
        rules.put("moves", new Rule(-2, (s, v) -> s.isPlayer(v[0]) && within(v[1], 0, 3) && within(v[3], 1, 99)
            && within(v[2], 0, v[3]), 0, 0, 50, 51));
        rules.put("weight", new Rule(-2, (s, v) -> within(v[0], 0, 3) && within(v[1], 1, 9), 0, 5));
        rules.put("share", new Rule(-2, (s, v) -> s.isPlayer(v[0]) && within(v[1], 0, 1), 0, 0));
        rules.put("part", new Rule(-1000000000000L, (s, v) -> within(v[0], 0, 1), 0));
        rules.put("image", new Rule(-2, (s, v) -> within(v[0], 0, 1), 0));
        rules.put("from", new Rule(-2, (s, v) -> within(v[0], 0, 1), 0));
        rules.put("count", new Rule(-2, (s, v) -> within(v[0], 0, 3), 0));
    }

    private static void tryAll(Method method, Rule rule) throws ReflectiveOperationException {
        if (rule == null) {
            wrong++;
            System.out.println("no bounds are told of " + method);
            return;
        }
        for (State state : STATES) {
            for (int i = 0; i < rule.base.length; i++) {
                for (int v : NEAR) {
                    int[] values = rule.base.clone();
                    values[i] = v;
                    tryOne(method, rule, state, values);
                    tryWithAnother(method, rule, state, values, i);
                }
            }
        }
    }

    private static void tryWithAnother(Method method, Rule rule, State state, int[] values, int i)
        throws ReflectiveOperationException {
        for (int k = 0; k < values.length; k++) {
            for (int w : FEW) {
                if (k != i) {
                    int[] both = values.clone();
                    both[k] = w;
                    tryOne(method, rule, state, both);
                }
            }
        }
    }

    private static void tryOne(Method method, Rule rule, State state, int[] values) throws ReflectiveOperationException {
        tried++;
        RopeRanks x = state.build();
        long digest = x.digest();
        long got = call(x, method, values);
        boolean asTold = rule.told.asTold(state, values);
        if (asTold == (got == rule.bad)) {
            fail(method, state, values, "answered " + got);
        }
        if (!asTold && (x.digest() != digest || !keptAsOf(x, state))) {
            fail(method, state, values, "is refused and changed something");
        }
    }

    private static boolean keptAsOf(RopeRanks x, State state) {
        RopeRanks twin = state.build();
        boolean none = x.from(1) == RopeRanks.NO;
        return none && x.from(0) == twin.from(0) && x.digest() == twin.digest();
    }

    private static long call(RopeRanks x, Method method, int[] values) throws ReflectiveOperationException {
        Object[] arguments = new Object[values.length];
        for (int i = 0; i < values.length; i++) {
            boolean isTruth = method.getParameterTypes()[i] == boolean.class;
            arguments[i] = isTruth ? (Object) (values[i] == 1) : (Object) values[i];
        }
        return ((Number) method.invoke(x, arguments)).longValue();
    }

    private static void fail(Method method, State state, int[] values, String what) {
        wrong++;
        System.out.println(method.getName() + java.util.Arrays.toString(values) + " with " + state + " " + what);
    }
}
