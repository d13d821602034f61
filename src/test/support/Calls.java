import java.lang.reflect.InvocationTargetException;
import java.lang.reflect.Method;
import java.util.HashMap;
import java.util.Map;

/**
 * Runs of calls, each on a new object, written as texts: "link(0, 1, 5) = 1; cut(0, 1) = 5" makes two calls and tells
 * the answers that are due. text(..) appends every character between its brackets and answers the last answer.
 */
class Calls {
    static final int MOST_CALLS = 512;

    private static final Map<String, Method> METHODS = new HashMap<>();
    private static int made = 0;
    private static int wrong = 0;

    static void run(String label, String text) {
        WeightedForest forest = new WeightedForest();
        int before = made;
        StringBuilder done = new StringBuilder();
        for (String step : text.split("; ")) {
            int equals = step.lastIndexOf(" = ");
            if (equals < 0) {
                fail(label + ": no answer is told in \"" + step + "\"");
                return;
            }
            String call = step.substring(0, equals).trim();
            long want = Long.parseLong(step.substring(equals + 3).trim());
            long got = make(forest, call);
            due(label, (done.length() == 0 ? "" : "behind \"" + lastOf(done) + "\" ") + call, got, want);
            if (got != want) {
                return;
            }
            done.append(done.length() == 0 ? "" : "; ").append(step);
        }
        if (made - before > MOST_CALLS) {
            fail(label + ": " + (made - before) + " calls on one object, more than the document allows, in \"" + lastOf(done) + "\"");
        }
    }

    private static String lastOf(StringBuilder done) {
        int length = done.length();
        return length <= 400 ? done.toString() : ".. " + done.substring(length - 400);
    }

    static void due(String label, String call, long got, long want) {
        if (got != want) {
            fail(label + ": " + call + " answered " + got + ", due is " + want);
        }
    }

    static void fail(String text) {
        wrong++;
        System.out.println(text);
    }

    /** Prints how many calls were made, and ends the program with exit code 1 if one answer was wrong. */
    static void finish() {
        System.out.println(made + " calls, " + wrong + " wrong");
        if (wrong != 0) {
            System.exit(1);
        }
    }

    /** Makes the call that is written, such as "cut(0, 1)". */
    static long make(WeightedForest forest, String call) {
        int open = call.indexOf('(');
        String name = call.substring(0, open);
        String inside = call.substring(open + 1, call.length() - 1);
        if (name.equals("text")) {
            return write(forest, inside);
        }
        made++;
        String[] written = inside.isEmpty() ? new String[0] : inside.split(", ");
        Method method = METHODS.computeIfAbsent(name, Calls::methodOf);
        if (method == null || method.getParameterCount() != written.length) {
            fail("no method for " + call);
            return Long.MIN_VALUE;
        }
        try {
            return ((Number) method.invoke(forest, values(method, written))).longValue();
        } catch (IllegalAccessException | InvocationTargetException e) {
            fail(call + " threw " + e.getCause());
            return Long.MIN_VALUE;
        }
    }

    private static long write(WeightedForest forest, String signs) {
        long last = 0;
        for (char sign : signs.toCharArray()) {
            made++;
            last = forest.append(sign);
        }
        return last;
    }

    private static Method methodOf(String name) {
        for (Method method : WeightedForest.class.getMethods()) {
            if (method.getName().equals(name)) {
                return method;
            }
        }
        return null;
    }

    private static Object[] values(Method method, String[] written) {
        Object[] values = new Object[written.length];
        for (int i = 0; i < written.length; i++) {
            if (method.getParameterTypes()[i] == long.class) {
                values[i] = Long.parseLong(written[i]);
            } else {
                values[i] = Integer.parseInt(written[i]);
            }
        }
        return values;
    }

    // ---- parts of runs

    /** Writes a complete setup into the empty text buffer and loads it. */
    static String loaded(String setup) {
        int vertices = Integer.parseInt(setup.substring(1, 3));
        return "text(" + setup + ") = " + setup.length() + "; load() = " + (setup.length() - 3 - 2 * vertices) / 4 + "; ";
    }

    /** Links in a forest without edges: "0-1:5 1-2:3" by weights, "0-1 1-2" by the weight 1. */
    static String links(String edges) {
        StringBuilder run = new StringBuilder();
        int count = 0;
        for (String edge : edges.split(" ")) {
            String[] parts = edge.split("[-:]");
            count++;
            run.append("link(").append(parts[0]).append(", ").append(parts[1]).append(", ")
                .append(parts.length > 2 ? parts[2] : "1").append(") = ").append(count).append("; ");
        }
        return run.toString();
    }

    /** The edges of a path for links(..), all of one weight. */
    static String path(int weight, int... vertices) {
        StringBuilder edges = new StringBuilder();
        for (int i = 1; i < vertices.length; i++) {
            edges.append(i == 1 ? "" : " ").append(vertices[i - 1]).append('-').append(vertices[i]).append(':').append(weight);
        }
        return links(edges.toString());
    }

    /** All 12 vertices on one path by ascending numbers, the longest that there is. */
    static String chain(int weight) {
        return path(weight, 0, 1, 2, 3, 4, 5, 6, 7, 8, 9, 10, 11);
    }

    /** The same call with each of the values in the place of the question mark, always with the same answer. */
    static String each(String call, long answer, long... values) {
        StringBuilder run = new StringBuilder();
        for (long value : values) {
            run.append(call.replace("?", "" + value)).append(" = ").append(answer).append("; ");
        }
        return run.toString();
    }

    /** The call with the numbers that are no vertices in a forest of n in the place of the question mark. */
    static String strangers(String call, int n) {
        return each(call, -1, -1, n, 100, Integer.MIN_VALUE, Integer.MAX_VALUE);
    }

    /** A call of runScript with these groups. */
    static String script(String groups, int answer) {
        String[] parts = groups.split(" ");
        return "runScript(" + parts.length + ", " + Long.parseLong(String.join("", parts)) + ") = " + answer + "; ";
    }

    /** So many actions, which give vertex 0 the weights 2, 3 and so on. */
    static String risingWeights(int actions) {
        StringBuilder run = new StringBuilder();
        for (int w = 2; w <= actions + 1; w++) {
            run.append("setVertexWeight(0, ").append(w).append(") = ").append(w - 1).append("; ");
        }
        return run.toString();
    }

    static String undos(int from, int to) {
        StringBuilder run = new StringBuilder();
        for (int left = from; left >= to; left--) {
            run.append("undo() = ").append(left).append("; ");
        }
        return run.toString();
    }

    /** So many characters in the empty text buffer, one by one. */
    static String appended(int signs) {
        StringBuilder run = new StringBuilder();
        for (int length = 1; length <= signs; length++) {
            run.append("append(120) = ").append(length).append("; ");
        }
        return run.toString();
    }
}
