import java.util.ArrayDeque;
import java.util.ArrayList;
import java.util.Arrays;
import java.util.HashSet;
import java.util.List;
import java.util.Map;
import java.util.Random;
import java.util.Set;
import java.util.TreeMap;
import java.util.TreeSet;

/**
 * Compares long runs of chosen calls with a model that was written from the document alone: it keeps a list of edges,
 * tries all 99 weights, adds up all ways in which edges can fail, and so on. The seeds are fixed.
 */
public final class ModelTests {
    private static final int RUNS = 600;
    private static final int CALLS = 512;

    private static final String[] NAMES = {
        "append", "clearText", "errorPosition", "load", "vertexWeight", "edgeWeight", "treeOf", "link", "cut",
        "setEdgeWeight", "setVertexWeight", "undo", "distance", "pathVertex", "eccentricity", "diameter", "diameterEnd",
        "centre", "median", "cost", "meeting", "rounds", "removalRound", "survivor", "balancedCut", "expectedReach",
        "observe", "possibleWeights", "runScript", "randomChanges", "save", "restore"};

    public static void main(String[] args) {
        int wrong = 0;
        int[] good = new int[NAMES.length];
        for (int run = 0; run < RUNS && wrong == 0; run++) {
            wrong += wrongCalls(run, good);
        }
        for (int i = 0; i < NAMES.length; i++) {
            if (good[i] < 50 && wrong == 0) {
                System.out.println(NAMES[i] + " was answered without an error " + good[i] + " times: too few to tell");
                wrong++;
            }
        }
        System.out.println(RUNS + " runs of " + CALLS + " calls, " + wrong + " faults");
        if (wrong != 0) {
            System.exit(1);
        }
    }

    private static int wrongCalls(int run, int[] good) {
        Random chance = new Random(run);
        Chooser chooser = new Chooser(chance, run % 5);
        WeightedForest real = new WeightedForest();
        Model model = new Model();
        List<String> log = new ArrayList<>();
        for (int i = 0; i < CALLS; i++) {
            long[] call = chooser.next(model);
            long want = model.answer(call);
            long got = realAnswer(real, call);
            log.add(NAMES[(int) call[0]] + Arrays.toString(Arrays.copyOfRange(call, 1, call.length)) + " = " + got);
            if (want >= 0) {
                good[(int) call[0]]++;
            }
            if (got != want) {
                log.forEach(System.out::println);
                System.out.println("run " + run + ": the last answer is wrong, due is " + want);
                return 1;
            }
        }
        return 0;
    }

    private static long realAnswer(WeightedForest f, long[] c) {
        int a = c.length > 1 ? (int) c[1] : 0;
        int b = c.length > 2 ? (int) c[2] : 0;
        int d = c.length > 3 ? (int) c[3] : 0;
        switch (NAMES[(int) c[0]]) {
            case "append": return f.append(a);
            case "clearText": return f.clearText();
            case "errorPosition": return f.errorPosition();
            case "load": return f.load();
            case "vertexWeight": return f.vertexWeight(a);
            case "edgeWeight": return f.edgeWeight(a, b);
            case "treeOf": return f.treeOf(a);
            case "link": return f.link(a, b, d);
            case "cut": return f.cut(a, b);
            case "setEdgeWeight": return f.setEdgeWeight(a, b, d);
            case "setVertexWeight": return f.setVertexWeight(a, b);
            case "undo": return f.undo();
            case "distance": return f.distance(a, b);
            case "pathVertex": return f.pathVertex(a, b, d);
            case "eccentricity": return f.eccentricity(a);
            case "diameter": return f.diameter(a);
            case "diameterEnd": return f.diameterEnd(a, b);
            case "centre": return f.centre(a);
            case "median": return f.median(a);
            case "cost": return f.cost(a);
            case "meeting": return f.meeting(a, b, d);
            case "rounds": return f.rounds(a);
            case "removalRound": return f.removalRound(a);
            case "survivor": return f.survivor(a);
            case "balancedCut": return f.balancedCut(a);
            case "expectedReach": return f.expectedReach(a, b);
            case "observe": return f.observe(a, b, d);
            case "possibleWeights": return f.possibleWeights(a, b);
            case "runScript": return f.runScript(a, c[2]);
            case "randomChanges": return f.randomChanges(c[1], b);
            case "save": return f.save(a);
            default: return f.restore(a);
        }
    }

    /** Chooses calls; now and then it writes a whole setup, sign by sign, some of them spoiled. */
    private static final class Chooser {
        private final Random chance;
        private final int style;
        private final ArrayDeque<long[]> planned = new ArrayDeque<>();

        Chooser(Random chance, int style) {
            this.chance = chance;
            this.style = style;
            if (style != 0) {
                planSetup();
            }
        }

        long[] next(Model model) {
            if (planned.isEmpty() && chance.nextInt(200) == 0) {
                planSetup();
            }
            if (planned.isEmpty() && chance.nextInt(12) == 0) {
                planGrowth(model);
            }
            return planned.isEmpty() ? plain(chance.nextInt(NAMES.length), model) : planned.poll();
        }

        private long[] plain(int kind, Model model) {
            switch (NAMES[kind]) {
                case "append": return call(kind, chance.nextInt(4) == 0 ? chance.nextInt(260) - 2 : sign());
                case "clearText": return chance.nextInt(4) == 0 ? call(kind) : plain(chance.nextInt(NAMES.length), model);
                case "load": return chance.nextInt(8) == 0 ? call(kind) : plain(chance.nextInt(NAMES.length), model);
                case "restore": return chance.nextInt(5) == 0 ? call(kind, chance.nextInt(4) - 1) : plain(chance.nextInt(NAMES.length), model);
                case "errorPosition": return call(kind);
                case "undo": return call(kind);
                case "edgeWeight":
                case "cut":
                case "possibleWeights": {
                    if (NAMES[kind].equals("cut") && chance.nextInt(3) != 0) {
                        return plain(chance.nextInt(NAMES.length), model);
                    }
                    int[] e = edge(model);
                    return call(kind, e[0], e[1]);
                }
                case "setEdgeWeight": {
                    int[] e = edge(model);
                    return call(kind, e[0], e[1], weight());
                }
                case "link": return call(kind, vertex(model), vertex(model), weight());
                case "setVertexWeight": return call(kind, vertex(model), chance.nextInt(4) == 0 ? chance.nextInt(103) - 2 : chance.nextInt(4));
                case "distance": return call(kind, vertex(model), vertex(model));
                case "pathVertex": return call(kind, vertex(model), vertex(model), chance.nextInt(8) - 1);
                case "diameterEnd": return call(kind, vertex(model), chance.nextInt(9) == 0 ? chance.nextInt(6) - 3 : chance.nextInt(2));
                case "meeting": return call(kind, vertex(model), vertex(model), vertex(model));
                case "expectedReach": return call(kind, vertex(model), chance.nextInt(13) - 1);
                case "observe": return observation(kind, model);
                case "runScript": return script(kind, model);
                case "randomChanges": return call(kind, chance.nextLong(), chance.nextInt(8) == 0 ? chance.nextInt(65) - 2 : 1 + chance.nextInt(60));
                case "save": return call(kind, chance.nextInt(4) - 1);
                default: return call(kind, vertex(model));
            }
        }

        private long[] call(long... parts) {
            return parts;
        }

        private int sign() {
            String likely = "F0123456789abcdl";
            return likely.charAt(chance.nextInt(likely.length()));
        }

        private int vertex(Model model) {
            int kind = chance.nextInt(60);
            if (kind == 0) {
                return chance.nextBoolean() ? Integer.MAX_VALUE : Integer.MIN_VALUE;
            }
            return kind < 4 ? chance.nextInt(16) - 2 : chance.nextInt(model.n);
        }

        private int[] edge(Model model) {
            if (model.edges.isEmpty() || chance.nextInt(4) == 0) {
                return new int[] {vertex(model), vertex(model)};
            }
            int[] e = model.edges.get(chance.nextInt(model.edges.size()));
            return chance.nextBoolean() ? new int[] {e[0], e[1]} : new int[] {e[1], e[0]};
        }

        /** Small weights make ties, which the document settles. */
        private int weight() {
            int kind = chance.nextInt(12);
            if (kind == 0) {
                return chance.nextInt(104) - 2;
            }
            return style < 3 && kind < 10 ? 1 + chance.nextInt(2) : 1 + chance.nextInt(99);
        }

        private long[] observation(int kind, Model model) {
            int u = vertex(model);
            int v = vertex(model);
            if (chance.nextInt(6) == 0 || !model.hasVertex(u) || !model.hasVertex(v)) {
                return call(kind, chance.nextInt(14) - 1, chance.nextInt(14) - 1, chance.nextInt(1004) - 2);
            }
            int d = Math.max(0, model.distance(u, v));
            return call(kind, u, v, chance.nextInt(4) == 0 ? Math.max(0, d + chance.nextInt(9) - 4) : d);
        }

        private long[] script(int kind, Model model) {
            int n = 1 + chance.nextInt(3);
            long script = 0;
            for (int i = 0; i < n; i++) {
                int[] pair = edge(model);
                if (chance.nextInt(3) == 0) {
                    pair = new int[] {vertex(model), vertex(model)};
                }
                long u = Math.floorMod(pair[0], 100);
                long v = Math.floorMod(pair[1], 100);
                int command = chance.nextInt(20) == 0 ? chance.nextInt(10) : 1 + chance.nextInt(5);
                script = script * 100000 + command * 10000L + u * 100 + v;
            }
            if (chance.nextInt(20) == 0) {
                script = chance.nextLong() >> chance.nextInt(50);
            }
            return call(kind, chance.nextInt(20) == 0 ? chance.nextInt(7) - 2 : n, script);
        }

        private void planGrowth(Model model) {
            for (int i = 0; i < 10; i++) {
                planned.add(call(7, chance.nextInt(model.n), chance.nextInt(model.n), Math.max(1, Math.min(99, weight()))));
            }
        }

        private void planSetup() {
            planned.add(call(1));
            StringBuilder text = new StringBuilder(setup());
            if (chance.nextInt(4) == 0) {
                spoil(text);
            }
            for (int i = 0; i < text.length(); i++) {
                planned.add(call(0, text.charAt(i)));
                if (chance.nextInt(6) == 0) {
                    planned.add(call(2));
                }
            }
            planned.add(call(2));
            planned.add(call(3));
        }

        private String setup() {
            int n = chance.nextInt(3) == 0 ? 1 + chance.nextInt(12) : 8 + chance.nextInt(5);
            StringBuilder text = new StringBuilder(String.format("F%02d", n));
            for (int v = 0; v < n; v++) {
                text.append(String.format("%02d", style == 4 ? chance.nextInt(100) : chance.nextInt(3)));
            }
            List<Integer> order = new ArrayList<>();
            for (int v = 0; v < n; v++) {
                order.add(v);
            }
            java.util.Collections.shuffle(order, chance);
            int shape = chance.nextInt(3);
            for (int i = 1; i < n; i++) {
                int other = shape == 0 ? i - 1 : shape == 1 ? Math.max(0, i - 1 - chance.nextInt(3)) : chance.nextInt(i);
                if (chance.nextInt(14) != 0) {
                    int u = order.get(i);
                    int v = order.get(other);
                    boolean turned = chance.nextBoolean();
                    text.append((char) ('a' + (turned ? v : u))).append((char) ('a' + (turned ? u : v)));
                    text.append(String.format("%02d", Math.max(1, Math.min(99, weight()))));
                }
            }
            return text.toString();
        }

        private void spoil(StringBuilder text) {
            int at = chance.nextInt(text.length());
            switch (chance.nextInt(4)) {
                case 0: text.setCharAt(at, (char) sign()); break;
                case 1: text.deleteCharAt(at); break;
                case 2: text.insert(at, (char) sign()); break;
                default: text.append((char) sign()).append((char) sign());
            }
        }
    }

    /** The document's object, in the plainest way. */
    private static final class Model {
        int n = 12;
        int[] weights = new int[12];
        List<int[]> edges = new ArrayList<>();
        private final StringBuilder text = new StringBuilder();
        private final ArrayDeque<Model> remembered = new ArrayDeque<>();
        private final Model[] saved = new Model[2];
        private final List<int[]> observed = new ArrayList<>();

        Model() {
            Arrays.fill(weights, 1);
        }

        private Model copy() {
            Model copy = new Model();
            copy.take(this);
            return copy;
        }

        private void take(Model other) {
            n = other.n;
            weights = other.weights.clone();
            edges = new ArrayList<>();
            for (int[] e : other.edges) {
                edges.add(e.clone());
            }
        }

        private void act() {
            remembered.addLast(copy());
            if (remembered.size() > 14) {
                remembered.removeFirst();
            }
        }

        long answer(long[] c) {
            int a = c.length > 1 ? (int) c[1] : 0;
            int b = c.length > 2 ? (int) c[2] : 0;
            int d = c.length > 3 ? (int) c[3] : 0;
            String name = NAMES[(int) c[0]];
            switch (name) {
                case "append":
                    if (a < 0 || a > 255) return -2;
                    if (text.length() == 80) return -4;
                    text.append((char) a);
                    return text.length();
                case "clearText": {
                    int before = text.length();
                    text.setLength(0);
                    return before;
                }
                case "errorPosition": return reading(null);
                case "load": {
                    Model read = new Model();
                    if (reading(read) != -9) return -3;
                    take(read);
                    remembered.clear();
                    Arrays.fill(saved, null);
                    return edges.size();
                }
                case "undo":
                    if (remembered.isEmpty()) return -3;
                    take(remembered.removeLast());
                    return remembered.size();
                case "observe":
                    if (a < 0 || a > 11 || b < 0 || b > 11 || d < 0 || d > 999) return -2;
                    observed.add(new int[] {a, b, d});
                    if (observed.size() > 6) observed.remove(0);
                    return observed.size();
                case "runScript": return script(a, c[2]);
                case "randomChanges": return changes(c[1], b);
                case "save":
                    if (a != 0 && a != 1) return -1;
                    saved[a] = copy();
                    return edges.size();
                case "restore":
                    if (a != 0 && a != 1) return -1;
                    if (saved[a] == null) return -3;
                    take(saved[a]);
                    remembered.clear();
                    return edges.size();
                default: return ofVertices(name, a, b, d);
            }
        }

        private long ofVertices(String name, int a, int b, int d) {
            int vertices = List.of("edgeWeight", "link", "cut", "setEdgeWeight", "distance", "pathVertex", "possibleWeights").contains(name)
                ? 2 : name.equals("meeting") ? 3 : 1;
            if (!hasVertex(a) || vertices > 1 && !hasVertex(b) || vertices > 2 && !hasVertex(d)) return -1;
            switch (name) {
                case "vertexWeight": return weights[a];
                case "edgeWeight": return edge(a, b) == null ? -9 : edge(a, b)[2];
                case "treeOf": return tree(a).first();
                case "link":
                case "cut":
                case "setEdgeWeight":
                case "setVertexWeight": return action(name, a, b, d);
                case "distance": return tree(a).contains(b) ? distance(a, b) : -9;
                case "pathVertex": {
                    if (d < 0) return -2;
                    List<Integer> path = path(a, b, -1);
                    return path == null || d >= path.size() ? -9 : path.get(d);
                }
                case "eccentricity": return reach(a);
                case "diameter": return width(a)[0];
                case "diameterEnd": return b != 0 && b != 1 ? -2 : width(a)[1 + b];
                case "centre": return centre(a);
                case "median": return median(a);
                case "cost": return cost(a);
                case "meeting": return meeting(a, b, d);
                case "rounds": return contracted(a).values().stream().mapToInt(r -> r == 99 ? 0 : r).max().getAsInt();
                case "removalRound": return contracted(a).get(a) == 99 ? -9 : contracted(a).get(a);
                case "survivor": return contracted(a).entrySet().stream().filter(e -> e.getValue() == 99).findFirst().get().getKey();
                case "balancedCut": return balancedCut(a);
                case "expectedReach": return b < 0 || b > 10 ? -2 : expected(a, b);
                default: return edge(a, b) == null ? -3 : possible(a, b);
            }
        }

        private long action(String name, int a, int b, int d) {
            if (name.equals("setVertexWeight")) {
                if (b < 0 || b > 99) return -2;
                act();
                int before = weights[a];
                weights[a] = b;
                return before;
            }
            if (!name.equals("cut") && (d < 1 || d > 99)) return -2;
            int[] e = edge(a, b);
            if (name.equals("link")) {
                if (tree(a).contains(b)) return -3;
                act();
                edges.add(new int[] {a, b, d});
                return edges.size();
            }
            if (e == null) return -3;
            act();
            int before = e[2];
            if (name.equals("cut")) {
                edges.remove(edge(a, b));
            } else {
                edge(a, b)[2] = d;
            }
            return before;
        }

        boolean hasVertex(int v) {
            return v >= 0 && v < n;
        }

        private int[] edge(int a, int b) {
            for (int[] e : edges) {
                if (e[0] == a && e[1] == b || e[0] == b && e[1] == a) return e;
            }
            return null;
        }

        private TreeSet<Integer> tree(int v) {
            TreeSet<Integer> tree = new TreeSet<>(Set.of(v));
            boolean grows = true;
            while (grows) {
                grows = false;
                for (int[] e : edges) {
                    if (tree.contains(e[0]) != tree.contains(e[1])) {
                        tree.add(e[0]);
                        tree.add(e[1]);
                        grows = true;
                    }
                }
            }
            return tree;
        }

        private List<Integer> path(int from, int to, int before) {
            if (from == to) return new ArrayList<>(List.of(to));
            for (int[] e : edges) {
                int next = e[0] == from ? e[1] : e[1] == from ? e[0] : -1;
                if (next >= 0 && next != before) {
                    List<Integer> rest = path(next, to, from);
                    if (rest != null) {
                        rest.add(0, from);
                        return rest;
                    }
                }
            }
            return null;
        }

        int distance(int a, int b) {
            List<Integer> path = path(a, b, -1);
            if (path == null) return -1;
            int sum = 0;
            for (int i = 1; i < path.size(); i++) {
                sum += edge(path.get(i - 1), path.get(i))[2];
            }
            return sum;
        }

        private int reach(int v) {
            int most = 0;
            for (int u : tree(v)) most = Math.max(most, distance(u, v));
            return most;
        }

        private int[] width(int v) {
            int[] best = {-1, -1, -1};
            for (int a : tree(v)) {
                for (int b : tree(v).tailSet(a)) {
                    if (distance(a, b) > best[0]) best = new int[] {distance(a, b), a, b};
                }
            }
            return best;
        }

        private int centre(int v) {
            int best = tree(v).first();
            for (int u : tree(v)) if (reach(u) < reach(best)) best = u;
            return best;
        }

        private int cost(int v) {
            int sum = 0;
            for (int u : tree(v)) sum += weights[u] * distance(u, v);
            return sum;
        }

        private int median(int v) {
            int best = tree(v).first();
            for (int u : tree(v)) if (cost(u) < cost(best)) best = u;
            return best;
        }

        private int meeting(int u, int v, int w) {
            if (!tree(u).contains(v) || !tree(u).contains(w)) return -9;
            Set<Integer> on = new HashSet<>(path(u, v, -1));
            on.retainAll(path(v, w, -1));
            on.retainAll(path(u, w, -1));
            if (on.size() != 1) throw new IllegalStateException("not one meeting vertex");
            return on.iterator().next();
        }

        /** The removal rounds of the tree of v, 99 for the survivor. */
        private Map<Integer, Integer> contracted(int v) {
            Map<Integer, Integer> result = new TreeMap<>();
            TreeMap<Integer, TreeMap<Integer, Boolean>> near = new TreeMap<>();
            for (int u : tree(v)) near.put(u, new TreeMap<>());
            for (int[] e : edges) {
                if (near.containsKey(e[0])) {
                    near.get(e[0]).put(e[1], false);
                    near.get(e[1]).put(e[0], false);
                }
            }
            for (int round = 1; near.size() > 1; round++) {
                List<Integer> leaves = new ArrayList<>();
                for (int u : near.keySet()) if (near.get(u).size() == 1) leaves.add(u);
                if (near.size() == 2) leaves.remove(0);
                for (int u : leaves) drop(near, u, result, round);
                for (TreeMap<Integer, Boolean> row : near.values()) row.replaceAll((u, made) -> false);
                for (int u : new ArrayList<>(near.keySet())) {
                    TreeMap<Integer, Boolean> row = near.get(u);
                    if (row.size() == 2 && !row.containsValue(true)) {
                        int a = row.firstKey();
                        int b = row.lastKey();
                        drop(near, u, result, round);
                        near.get(a).put(b, true);
                        near.get(b).put(a, true);
                    }
                }
            }
            result.put(near.firstKey(), 99);
            return result;
        }

        private static void drop(TreeMap<Integer, TreeMap<Integer, Boolean>> near, int u, Map<Integer, Integer> result, int round) {
            for (int other : near.remove(u).keySet()) {
                if (near.containsKey(other)) near.get(other).remove(u);
            }
            result.put(u, round);
        }

        private int balancedCut(int v) {
            int least = Integer.MAX_VALUE;
            int code = -9;
            for (int[] e : edges) {
                if (!tree(v).contains(e[0])) continue;
                Model parted = copy();
                parted.edges.remove(parted.edge(e[0], e[1]));
                int load = Math.max(parted.sum(e[0]), parted.sum(e[1]));
                int own = 100 * Math.min(e[0], e[1]) + Math.max(e[0], e[1]);
                if (load < least || load == least && own < code) {
                    least = load;
                    code = own;
                }
            }
            return code;
        }

        private int sum(int v) {
            int sum = 0;
            for (int u : tree(v)) sum += weights[u];
            return sum;
        }

        /** Adds up all sets of edges of the tree that can hold, each with its chance in parts of 10 to the number of edges. */
        private long expected(int v, int x) {
            List<int[]> own = new ArrayList<>();
            for (int[] e : edges) if (tree(v).contains(e[0])) own.add(e);
            long sum = 0;
            for (int set = 0; set < 1 << own.size(); set++) {
                long parts = 1;
                for (int i = 0; i < own.size(); i++) parts *= (set >> i & 1) == 1 ? 10 - x : x;
                if (parts > 0) sum += parts * held(v, own, set);
            }
            for (int i = own.size(); i < 11; i++) sum *= 10;
            return sum;
        }

        private int held(int v, List<int[]> own, int set) {
            int seen = 1 << v;
            int before = 0;
            while (seen != before) {
                before = seen;
                for (int i = 0; i < own.size(); i++) {
                    int ends = 1 << own.get(i)[0] | 1 << own.get(i)[1];
                    if ((set >> i & 1) == 1 && (seen & ends) != 0) seen |= ends;
                }
            }
            int sum = 0;
            for (int u = 0; u < n; u++) if ((seen >> u & 1) == 1) sum += weights[u];
            return sum;
        }

        private int possible(int a, int b) {
            int found = 0;
            for (int w = 1; w <= 99; w++) {
                Model tried = copy();
                tried.edge(a, b)[2] = w;
                boolean holds = true;
                for (int[] o : observed) {
                    holds = holds && hasVertex(o[0]) && hasVertex(o[1]) && tried.distance(o[0], o[1]) == o[2];
                }
                if (holds) found++;
            }
            return found;
        }

        private int script(int commands, long script) {
            if (commands < 1 || commands > 3 || script < 0 || String.valueOf(script).length() > 5 * commands) return -2;
            String digits = "0".repeat(15) + script;
            digits = digits.substring(digits.length() - 5 * commands);
            Model copy = copy();
            for (int i = 0; i < commands; i++) {
                int u = Integer.parseInt(digits.substring(5 * i + 1, 5 * i + 3));
                int v = Integer.parseInt(digits.substring(5 * i + 3, 5 * i + 5));
                if (!copy.succeeds(digits.charAt(5 * i), u, v)) return i;
            }
            return -9;
        }

        private boolean succeeds(char command, int u, int v) {
            boolean same = hasVertex(u) && hasVertex(v) && tree(u).contains(v);
            switch (command) {
                case '1': return ofVertices("link", u, v, 1) > 0;
                case '2': return ofVertices("cut", u, v, 0) > 0;
                case '3': return same;
                case '4': return same && centre(u) == v;
                case '5': return same && contracted(u).get(u) < contracted(u).get(v);
                default: return false;
            }
        }

        private long changes(long seed, int steps) {
            if (steps < 1 || steps > 60) return -2;
            Model copy = copy();
            long x = seed;
            long sum = 0;
            for (int i = 0; i < steps; i++) {
                x = x * 6364136223846793005L + 1442695040888963407L;
                int r = (int) (x >>> 33);
                int u = r % n;
                int v = r / 16 % n;
                int w = r / 256 % 99 + 1;
                if (copy.edge(u, v) == null) {
                    copy.ofVertices("link", u, v, w);
                } else {
                    copy.ofVertices(w % 2 == 0 ? "cut" : "setEdgeWeight", u, v, w);
                }
                sum += copy.width(0)[0];
            }
            return sum;
        }

        /** The error position of the text: the place before which all is allowed. */
        private int reading(Model into) {
            Model read = new Model();
            for (int at = 0; at < text.length(); at++) {
                if (!allowed(read, at)) return at;
            }
            int length = text.length();
            if (length < 3 || length < 3 + 2 * read.n || (length - 3 - 2 * read.n) % 4 != 0) return length;
            for (int v = 0; v < read.n; v++) read.weights[v] = number(3 + 2 * v);
            if (into != null) into.take(read);
            return -9;
        }

        private int number(int at) {
            return Integer.parseInt(text.substring(at, at + 2));
        }

        private boolean allowed(Model read, int at) {
            char sign = text.charAt(at);
            boolean digit = "0123456789".indexOf(sign) >= 0;
            if (at == 0) return sign == 'F';
            if (at == 1) return sign == '0' || sign == '1';
            if (at == 2) {
                if (!digit || number(1) < 1 || number(1) > 12) return false;
                read.n = number(1);
                return true;
            }
            int behind = at - 3 - 2 * read.n;
            if (behind < 0) return digit;
            int vertex = "abcdefghijkl".substring(0, read.n).indexOf(sign);
            switch (behind % 4) {
                case 0: return vertex >= 0;
                case 1: return vertex >= 0 && !read.tree(text.charAt(at - 1) - 'a').contains(vertex);
                case 2: return digit;
                default:
                    if (!digit || number(at - 1) == 0) return false;
                    read.edges.add(new int[] {text.charAt(at - 3) - 'a', text.charAt(at - 2) - 'a', number(at - 1)});
                    return true;
            }
        }
    }
}
