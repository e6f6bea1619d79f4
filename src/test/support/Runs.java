import java.lang.reflect.Method;
import java.lang.reflect.Modifier;
import java.util.ArrayList;
import java.util.HashMap;
import java.util.List;
import java.util.Map;

/**
 * Runs of calls told as text. What may stand on a line, or ahead of a ;
 *
 *   player(-60) = 0           the answer that is due
 *   player(-61) refused BAD   the answer that is due, and the call may leave no trace
 *   player(-60)               any answer of 0 or more
 *   players 3                 as many calls of player(0)
 *   meetings 3 (1, 0, 1, 2, false)
 *   text 0 'x + o'            this is the text of the SYSTEM
 *   fraction -1/3             THE FRACTION
 *   new                       goes on with a new object
 *
 * No trace: behind the run the object answers as a twin for which the refused calls never were.
 * No object is used for more calls than the document allows.
 */
public final class Runs {
    private static final int MOST_CALLS = 512;

    private record Call(Method method, Object[] arguments) {
        long on(RopeRanks ranks) throws ReflectiveOperationException {
            return ((Number) method.invoke(ranks, arguments)).longValue();
        }

        String told() {
            List<String> words = new ArrayList<>();
            for (Object argument : arguments) {
                words.add(argument.toString());
            }
            return method.getName() + "(" + String.join(", ", words) + ")";
        }
    }

    private final Map<String, Method> face = new HashMap<>();
    private final List<Call> accepted = new ArrayList<>();
    private RopeRanks ranks;
    private int calls;
    private boolean anyRefused;
    private String sentence = "";
    private int sentences;
    private int wrong;

    public Runs() {
        for (Method method : RopeRanks.class.getDeclaredMethods()) {
            if (Modifier.isPublic(method.getModifiers())) {
                face.put(method.getName(), method);
            }
        }
    }

    /** A sentence of the document, and a run that would show it broken. */
    public void told(String words, String script) {
        sentence = words;
        sentences++;
        begin();
        for (String line : script.split("[;\n]")) {
            if (!line.isBlank()) {
                step(line.strip());
            }
        }
        finish();
    }

    /** Ends the test: with 1 if an answer was not the one that is due. */
    public void end() {
        System.out.println(wrong == 0 ? sentences + " sentences hold" : wrong + " answers are not as due");
        if (wrong != 0) {
            System.exit(1);
        }
    }

    private void begin() {
        ranks = new RopeRanks();
        accepted.clear();
        calls = 0;
        anyRefused = false;
    }

    private void fail(String what) {
        wrong++;
        System.out.println("'" + sentence + "': " + what);
    }

    private void step(String line) {
        String word = line.split("[ (]")[0];
        switch (word) {
            case "new":
                finish();
                begin();
                break;
            case "players":
                repeat(Integer.parseInt(line.substring(8)), call("player(0)"));
                break;
            case "meetings":
                int open = line.indexOf('(');
                repeat(Integer.parseInt(line.substring(9, open).strip()), call("meeting" + line.substring(open)));
                break;
            case "text":
                write(line.substring(5, 6), line.substring(line.indexOf('\'') + 1, line.lastIndexOf('\'')));
                break;
            case "fraction":
                String[] parts = line.substring(9).split("/");
                due(call("part(0)"), Long.parseLong(parts[0]));
                due(call("part(1)"), Long.parseLong(parts[1]));
                break;
            default:
                stepOfCall(line);
                break;
        }
    }

    private void stepOfCall(String line) {
        int close = line.lastIndexOf(')') + 1;
        Call call = call(line.substring(0, close));
        String[] behind = line.substring(close).strip().split(" +");
        if (behind[0].equals("=")) {
            due(call, value(behind[1]));
        } else if (behind[0].equals("refused")) {
            refused(call, value(behind[1]));
        } else if (behind[0].isEmpty()) {
            accept(call);
        } else {
            throw new IllegalArgumentException(line);
        }
    }

    private void write(String system, String text) {
        accept(call("erase(" + system + ")"));
        for (char c : text.toCharArray()) {
            accept(call("write(" + system + ", " + (int) c + ")"));
        }
    }

    private void repeat(int times, Call call) {
        for (int i = 0; i < times; i++) {
            accept(call);
        }
    }

    private Call call(String told) {
        int open = told.indexOf('(');
        Method method = face.get(told.substring(0, open).strip());
        if (method == null) {
            throw new IllegalArgumentException("no such call: " + told);
        }
        String inside = told.substring(open + 1, told.length() - 1).strip();
        String[] words = inside.isEmpty() ? new String[0] : inside.split(" *, *");
        Object[] arguments = new Object[words.length];
        for (int i = 0; i < words.length; i++) {
            boolean isTruth = method.getParameterTypes()[i] == boolean.class;
            arguments[i] = isTruth ? (Object) Boolean.valueOf(words[i]) : (Object) (int) value(words[i]);
        }
        return new Call(method, arguments);
    }

    private static long value(String word) {
        switch (word) {
            case "NONE":
                return RopeRanks.NONE;
            case "BAD":
                return RopeRanks.BAD;
            case "NO":
                return RopeRanks.NO;
            case "FULL":
                return RopeRanks.FULL;
            default:
                return Long.parseLong(word);
        }
    }

    private long answer(RopeRanks of, Call call) {
        try {
            return call.on(of);
        } catch (ReflectiveOperationException e) {
            fail(call.told() + " threw " + e.getCause());
            return Long.MIN_VALUE;
        }
    }

    private long answer(Call call) {
        calls++;
        return answer(ranks, call);
    }

    private void due(Call call, long want) {
        long got = answer(call);
        accepted.add(call);
        if (got != want) {
            fail(call.told() + " answered " + got + ", due is " + want);
        }
    }

    private void refused(Call call, long want) {
        long got = answer(call);
        anyRefused = true;
        if (got != want) {
            fail(call.told() + " answered " + got + ", due is a refusal, " + want);
        }
    }

    private void accept(Call call) {
        long got = answer(call);
        accepted.add(call);
        if (got < 0) {
            fail(call.told() + " answered " + got + ", due is no refusal");
        }
    }

    private void finish() {
        if (anyRefused) {
            RopeRanks twin = new RopeRanks();
            for (Call call : accepted) {
                answer(twin, call);
            }
            compareWith(twin);
        }
        if (calls > MOST_CALLS) {
            fail(calls + " calls of one object");
        }
    }

    private void compareWith(RopeRanks twin) {
        String[] looks = {"digest()", "part(0)", "part(1)", "fewest()", "bestSystem()", "ways(-1)", "from(0)", "digest()",
            "from(1)", "digest()"};
        for (String look : looks) {
            Call call = call(look);
            long got = answer(call);
            long want = answer(twin, call);
            if (got != want) {
                fail("a refused call left a trace: " + look + " answers " + got + ", without it " + want);
            }
        }
    }
}
