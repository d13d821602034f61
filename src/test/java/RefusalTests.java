import java.lang.reflect.Method;
import java.lang.reflect.Modifier;
import java.util.ArrayList;
import java.util.LinkedHashMap;
import java.util.List;
import java.util.Map;
import java.util.Set;
import java.util.TreeSet;

/**
 * What a refused call leaves as it was ("A call that returns an error changes nothing and is not an action."), and a call
 * that only reads: two objects are brought into the same state, the call is made on one of them, and then both must give
 * the same answers to everything that can be asked, about the forest, each remembered state, each slot, the text and each
 * observation.
 */
public final class RefusalTests extends Calls {
    /** The states, by calls whose answers do not matter here. */
    private static final Map<String, String> STATES = new LinkedHashMap<>();

    /** What is refused in every state: the number of the promise, the call and the answer. */
    private static final String[] REFUSED = {
        "2 append(-1) = -2", "2 append(256) = -2", "6 vertexWeight(-1) = -1", "6 vertexWeight(12) = -1", "7 edgeWeight(-1, 0) = -1",
        "7 edgeWeight(0, 12) = -1", "7 edgeWeight(0, 0) = -9",
        "8 treeOf(-1) = -1", "8 treeOf(12) = -1", "9 link(-1, 1, 5) = -1", "9 link(0, 12, 5) = -1", "9 link(0, 4, 0) = -2",
        "9 link(0, 4, 100) = -2", "9 link(3, 3, 5) = -3",
        "10 cut(-1, 0) = -1", "10 cut(0, 12) = -1", "10 cut(3, 3) = -3", "10 cut(0, 3) = -3", "11 setEdgeWeight(-1, 0, 5) = -1",
        "11 setEdgeWeight(0, 12, 5) = -1", "11 setEdgeWeight(0, 1, 0) = -2",
        "11 setEdgeWeight(0, 1, 100) = -2", "11 setEdgeWeight(3, 3, 5) = -3", "11 setEdgeWeight(0, 3, 5) = -3",
        "12 setVertexWeight(-1, 5) = -1", "12 setVertexWeight(12, 5) = -1", "12 setVertexWeight(0, -1) = -2",
        "12 setVertexWeight(0, 100) = -2", "14 distance(-1, 0) = -1", "14 distance(0, 12) = -1", "15 pathVertex(-1, 0, 0) = -1",
        "15 pathVertex(0, 12, 0) = -1", "15 pathVertex(0, 0, -1) = -2", "15 pathVertex(0, 0, 1) = -9",
        "16 eccentricity(-1) = -1", "16 eccentricity(12) = -1", "17 diameter(-1) = -1", "17 diameter(12) = -1",
        "18 diameterEnd(12, 0) = -1", "18 diameterEnd(0, -1) = -2", "18 diameterEnd(0, 2) = -2",
        "19 centre(-1) = -1", "19 centre(12) = -1", "20 median(-1) = -1", "20 median(12) = -1", "21 cost(-1) = -1", "21 cost(12) = -1",
        "22 meeting(-1, 0, 0) = -1", "22 meeting(0, 12, 0) = -1", "22 meeting(0, 0, 12) = -1",
        "23 rounds(-1) = -1", "23 rounds(12) = -1", "24 removalRound(-1) = -1", "24 removalRound(12) = -1", "25 survivor(-1) = -1",
        "25 survivor(12) = -1", "26 balancedCut(-1) = -1", "26 balancedCut(12) = -1",
        "27 expectedReach(12, 5) = -1", "27 expectedReach(0, -1) = -2", "27 expectedReach(0, 11) = -2", "28 observe(-1, 0, 0) = -2",
        "28 observe(12, 0, 0) = -2", "28 observe(0, -1, 0) = -2", "28 observe(0, 12, 0) = -2",
        "28 observe(0, 0, -1) = -2", "28 observe(0, 0, 1000) = -2", "29 possibleWeights(-1, 0) = -1", "29 possibleWeights(0, 12) = -1",
        "29 possibleWeights(3, 3) = -3", "29 possibleWeights(0, 3) = -3",
        "30 runScript(0, 0) = -2", "30 runScript(4, 0) = -2", "30 runScript(1, -1) = -2", "30 runScript(1, 100000) = -2",
        "30 runScript(2, 10000000000) = -2", "30 runScript(3, 1000000000000000) = -2",
        "31 randomChanges(5, 0) = -2", "31 randomChanges(5, 61) = -2", "32 save(-1) = -1", "32 save(2) = -1", "33 restore(-1) = -1",
        "33 restore(2) = -1"};

    /** What only reads, with any answer. */
    private static final String[] READING = {
        "4 errorPosition()", "6 vertexWeight(0)", "7 edgeWeight(0, 1)", "8 treeOf(1)", "14 distance(0, 1)", "15 pathVertex(0, 1, 1)",
        "16 eccentricity(0)", "17 diameter(0)", "18 diameterEnd(0, 1)", "19 centre(0)", "20 median(0)",
        "21 cost(0)", "22 meeting(0, 1, 1)", "23 rounds(0)", "24 removalRound(0)", "25 survivor(0)", "26 balancedCut(0)",
        "27 expectedReach(0, 3)", "29 possibleWeights(0, 1)", "30 runScript(1, 10004)", "30 runScript(2, 1000420004)",
        "30 runScript(2, 2000110001)", "30 runScript(3, 200012010210004)", "30 runScript(3, 200012010299999)", "30 runScript(1, 50001)",
        "30 runScript(1, 40001)", "31 randomChanges(5, 60)", "31 randomChanges(-9223372036854775808, 1)"};

    private static final List<String> PROBES = new ArrayList<>();
    private static final Set<String> NAMES = new TreeSet<>();

    public static void main(String[] args) {
        makeStates();
        makeProbes();
        for (String state : STATES.keySet()) {
            check(state, REFUSED);
            check(state, READING);
        }
        check("new", "5 load() = -3", "7 edgeWeight(0, 1) = -9", "10 cut(0, 1) = -3", "11 setEdgeWeight(0, 1, 5) = -3",
            "13 undo() = -3", "14 distance(0, 1) = -9", "15 pathVertex(0, 1, 0) = -9", "22 meeting(0, 0, 1) = -9",
            "24 removalRound(0) = -9", "26 balancedCut(0) = -9", "29 possibleWeights(0, 1) = -3", "33 restore(0) = -3",
            "33 restore(1) = -3");
        check("small", "5 load() = -3", "9 link(0, 1, 5) = -3", "9 link(2, 0, 5) = -3", "7 edgeWeight(0, 5) = -1", "8 treeOf(5) = -1",
            "9 link(0, 5, 5) = -1", "9 link(11, 0, 5) = -1", "12 setVertexWeight(5, 5) = -1",
            "14 distance(0, 3) = -9", "22 meeting(0, 1, 3) = -9", "33 restore(1) = -3");
        check("full", "2 append(70) = -4", "2 append(0) = -4", "5 load() = -3", "9 link(0, 11, 5) = -3", "9 link(5, 0, 5) = -3");
        check("spent", "13 undo() = -3", "9 link(0, 1, 5) = -3");
        for (Method method : WeightedForest.class.getDeclaredMethods()) {
            boolean open = Modifier.isPublic(method.getModifiers());
            if (open && !NAMES.contains(method.getName()) && !method.getName().equals("clearText")) {
                fail("no call of " + method.getName() + " was tested");
            }
        }
        finish();
    }

    private static void makeStates() {
        STATES.put("new", "");
        // Five vertices, one slot empty, three of the last actions, a text that ends too soon.
        STATES.put("small", "text(F050301090002ab07bc03cd09); load(); observe(0, 2, 10); observe(1, 3, 12); observe(4, 4, 0); save(0); "
            + "setVertexWeight(1, 8); setEdgeWeight(0, 1, 6); cut(2, 3); "
            + "clearText(); text(F0209)");
        // Nothing more goes into the text; states and observations have been replaced already; both slots are full.
        StringBuilder full = new StringBuilder("save(0); ");
        for (int v = 0; v < 11; v++) {
            full.append("link(").append(v).append(", ").append(v + 1).append(", ").append(v + 3).append("); ");
        }
        full.append("observe(0, 0, 7); observe(0, 5, 26); observe(6, 6, 0); observe(0, 4, 18); observe(5, 5, 0); observe(1, 1, 0); "
                + "observe(3, 5, 13); observe(2, 2, 0); save(1); "
            + "setVertexWeight(0, 9); setEdgeWeight(3, 4, 7); setVertexWeight(11, 0); setVertexWeight(0, 8); setEdgeWeight(4, 5, 6); ");
        STATES.put("full", full + "text(F020102ab07" + "x".repeat(69) + ")");
        // A complete text that is not loaded; all states taken back, but for those that were forgotten.
        STATES.put("spent", full + "text(F03010203ab07bc09); " + "undo(); ".repeat(14));
    }

    private static void makeProbes() {
        StringBuilder all = new StringBuilder();
        for (int v = 0; v < 12; v++) {
            all.append("vertexWeight(").append(v).append("); ");
            for (int u = 0; u < v; u++) {
                all.append("edgeWeight(").append(u).append(", ").append(v).append("); ");
            }
        }
        StringBuilder weights = new StringBuilder();
        for (int v = 0; v < 11; v++) {
            weights.append("possibleWeights(").append(v).append(", ").append(v + 1).append("); ");
        }
        for (int back = 0; back <= 15; back++) {
            PROBES.add("undo(); ".repeat(back) + all);
            PROBES.add("setVertexWeight(0, 50); ".repeat(back) + "undo(); ".repeat(16));
        }
        PROBES.add("errorPosition(); append(48); errorPosition(); clearText(); append(70)");
        PROBES.add("load(); " + all + "undo(); restore(0); restore(1); clearText()");
        PROBES.add("restore(0); " + all + "undo(); restore(0)");
        PROBES.add("restore(1); " + all + "undo(); restore(1)");
        PROBES.add("save(0); restore(1); save(1); restore(0); " + all);
        // The observations go one by one, and each shows itself where it no longer speaks against a weight.
        PROBES.add(weights + ("observe(0, 0, 0); " + weights).repeat(7));
        PROBES.add("undo(); undo(); " + weights + ("observe(0, 0, 0); " + weights).repeat(7));
    }

    private static void check(String state, String... calls) {
        List<List<Long>> wanted = new ArrayList<>();
        for (String probe : PROBES) {
            wanted.add(answers(made(state), probe));
        }
        for (String call : calls) {
            String[] parts = call.substring(call.indexOf(' ') + 1).split(" = ");
            String label = "promise " + call.substring(0, call.indexOf(' ')) + ", " + parts[0] + " in the state \"" + state + "\"";
            NAMES.add(parts[0].substring(0, parts[0].indexOf('(')));
            for (int i = 0; i < PROBES.size(); i++) {
                WeightedForest forest = made(state);
                long got = make(forest, parts[0]);
                if (parts.length > 1 && i == 0) {
                    due(label, "it", got, Long.parseLong(parts[1]));
                }
                compare(label, PROBES.get(i), answers(forest, PROBES.get(i)), wanted.get(i));
            }
        }
    }

    private static WeightedForest made(String state) {
        WeightedForest forest = new WeightedForest();
        answers(forest, STATES.get(state));
        return forest;
    }

    private static List<Long> answers(WeightedForest forest, String calls) {
        List<Long> answers = new ArrayList<>();
        for (String call : calls.isEmpty() ? new String[0] : calls.split("; ")) {
            answers.add(make(forest, call));
        }
        return answers;
    }

    private static void compare(String label, String probe, List<Long> got, List<Long> want) {
        for (int i = 0; i < want.size(); i++) {
            if (!got.get(i).equals(want.get(i))) {
                fail(label + ": behind it " + probe.split("; ")[0] + " .. " + probe.split("; ")[i] + " answered " + got.get(i)
                        + ", without it " + want.get(i));
                return;
            }
        }
    }
}
