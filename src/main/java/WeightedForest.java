import java.util.Arrays;

/** A dynamic forest of at most 12 weighted vertices; ../shared/DOC.md says what each method answers. */
public final class WeightedForest {
    public static final int NO_SUCH_INDEX = -1;
    public static final int BAD_VALUE = -2;
    public static final int NOT_POSSIBLE = -3;
    public static final int FULL = -4;
    public static final int NONE = -9;

    private static final int MOST_VERTICES = 12;
    private static final int GREATEST_WEIGHT = 99;
    private static final int NO_EDGE = 0;
    private static final int NO_ERROR = 0;
    private static final int MOST_COMMANDS = 3;
    private static final int GROUP = 100000;
    private static final int MOST_STEPS = 60;
    private static final int MOST_TENTHS = 10;
    private static final int GREATEST_OBSERVED = 999;
    private static final int SLOTS = 2;

    // Greater than every distance, and small enough that the sum of two is no overflow.
    private static final int FAR = 1000000;

    // Greater than every distance, cost, load and removal round.
    private static final int HUGE = 1000000000;

    private final Forest forest;
    private final Survey survey;
    private final Forest trial;
    private final Survey trialSurvey;
    private final Contraction contraction;
    private final SetupText text;
    private final History history;
    private final Observations observations;
    private final Forest[] slots;
    private final boolean[] filled;

    public WeightedForest() {
        forest = new Forest();
        survey = new Survey(forest);
        trial = new Forest();
        trialSurvey = new Survey(trial);
        contraction = new Contraction();
        text = new SetupText();
        history = new History();
        observations = new Observations();
        slots = new Forest[SLOTS];
        for (int slot = 0; slot < SLOTS; slot++) {
            slots[slot] = new Forest();
        }
        filled = new boolean[SLOTS];
    }

    // ---- setup text

    public int append(int c) {
        if (c < 0 || c > 255) {
            return BAD_VALUE;
        }
        return text.put(c) ? text.size() : FULL;
    }

    public int clearText() {
        int previous = text.size();
        text.empty();
        return previous;
    }

    public int errorPosition() {
        return text.readInto(trial);
    }

    public int load() {
        if (text.readInto(trial) != NONE) {
            return NOT_POSSIBLE;
        }
        forest.become(trial);
        history.forget();
        emptySlots();
        return forest.edgeCount();
    }

    private void emptySlots() {
        for (int slot = 0; slot < SLOTS; slot++) {
            filled[slot] = false;
        }
    }

    // ---- reading the forest

    public int vertexWeight(int v) {
        return forest.hasVertex(v) ? forest.weightOf(v) : NO_SUCH_INDEX;
    }

    public int edgeWeight(int u, int v) {
        if (!forest.hasVertices(u, v)) {
            return NO_SUCH_INDEX;
        }
        return forest.hasEdge(u, v) ? forest.edgeBetween(u, v) : NONE;
    }

    public int treeOf(int v) {
        if (!forest.hasVertex(v)) {
            return NO_SUCH_INDEX;
        }
        survey.measure();
        return survey.smallestJoined(v);
    }

    // ---- actions

    public int link(int u, int v, int w) {
        int error = linkError(forest, survey, u, v, w);
        if (error != NO_ERROR) {
            return error;
        }
        history.remember(forest);
        forest.putEdge(u, v, w);
        return forest.edgeCount();
    }

    public int cut(int u, int v) {
        int error = cutError(forest, u, v);
        if (error != NO_ERROR) {
            return error;
        }
        int previous = forest.edgeBetween(u, v);
        history.remember(forest);
        forest.putEdge(u, v, NO_EDGE);
        return previous;
    }

    public int setEdgeWeight(int u, int v, int w) {
        if (!forest.hasVertices(u, v)) {
            return NO_SUCH_INDEX;
        }
        if (w < 1 || w > GREATEST_WEIGHT) {
            return BAD_VALUE;
        }
        if (!forest.hasEdge(u, v)) {
            return NOT_POSSIBLE;
        }
        int previous = forest.edgeBetween(u, v);
        history.remember(forest);
        forest.putEdge(u, v, w);
        return previous;
    }

    public int setVertexWeight(int v, int w) {
        if (!forest.hasVertex(v)) {
            return NO_SUCH_INDEX;
        }
        if (w < 0 || w > GREATEST_WEIGHT) {
            return BAD_VALUE;
        }
        int previous = forest.weightOf(v);
        history.remember(forest);
        forest.putWeight(v, w);
        return previous;
    }

    public int undo() {
        return history.takeBack(forest) ? history.size() : NOT_POSSIBLE;
    }

    private static int linkError(Forest where, Survey lengths, int u, int v, int w) {
        if (!where.hasVertices(u, v)) {
            return NO_SUCH_INDEX;
        }
        if (w < 1 || w > GREATEST_WEIGHT) {
            return BAD_VALUE;
        }
        lengths.measure();
        return lengths.joined(u, v) ? NOT_POSSIBLE : NO_ERROR;
    }

    private static int cutError(Forest where, int u, int v) {
        if (!where.hasVertices(u, v)) {
            return NO_SUCH_INDEX;
        }
        return where.hasEdge(u, v) ? NO_ERROR : NOT_POSSIBLE;
    }

    // ---- distances and paths

    public int distance(int u, int v) {
        if (!forest.hasVertices(u, v)) {
            return NO_SUCH_INDEX;
        }
        survey.measure();
        return survey.joined(u, v) ? survey.between(u, v) : NONE;
    }

    public int pathVertex(int u, int v, int i) {
        if (!forest.hasVertices(u, v)) {
            return NO_SUCH_INDEX;
        }
        if (i < 0) {
            return BAD_VALUE;
        }
        survey.measure();
        return survey.vertexOnPath(u, v, i);
    }

    public int eccentricity(int v) {
        if (!forest.hasVertex(v)) {
            return NO_SUCH_INDEX;
        }
        survey.measure();
        return survey.greatestFrom(v);
    }

    public int diameter(int v) {
        if (!forest.hasVertex(v)) {
            return NO_SUCH_INDEX;
        }
        survey.measure();
        return survey.widthAround(v);
    }

    public int diameterEnd(int v, int which) {
        if (!forest.hasVertex(v)) {
            return NO_SUCH_INDEX;
        }
        if (which != 0 && which != 1) {
            return BAD_VALUE;
        }
        survey.measure();
        int first = survey.firstWideEnd(v);
        return which == 0 ? first : survey.firstFarthest(first);
    }

    public int centre(int v) {
        if (!forest.hasVertex(v)) {
            return NO_SUCH_INDEX;
        }
        survey.measure();
        return survey.middleOf(v);
    }

    public int median(int v) {
        if (!forest.hasVertex(v)) {
            return NO_SUCH_INDEX;
        }
        survey.measure();
        return survey.cheapestOf(v);
    }

    public int cost(int v) {
        if (!forest.hasVertex(v)) {
            return NO_SUCH_INDEX;
        }
        survey.measure();
        return survey.priceOf(v);
    }

    public int meeting(int u, int v, int w) {
        if (!forest.hasVertices(u, v) || !forest.hasVertex(w)) {
            return NO_SUCH_INDEX;
        }
        survey.measure();
        return survey.meetingOf(u, v, w);
    }

    // ---- contraction, cuts, reach

    public int rounds(int v) {
        if (!forest.hasVertex(v)) {
            return NO_SUCH_INDEX;
        }
        contraction.contract(forest, v);
        return contraction.roundCount();
    }

    public int removalRound(int v) {
        if (!forest.hasVertex(v)) {
            return NO_SUCH_INDEX;
        }
        contraction.contract(forest, v);
        return contraction.roundOf(v);
    }

    public int survivor(int v) {
        if (!forest.hasVertex(v)) {
            return NO_SUCH_INDEX;
        }
        contraction.contract(forest, v);
        return contraction.lastVertex();
    }

    public int balancedCut(int v) {
        if (!forest.hasVertex(v)) {
            return NO_SUCH_INDEX;
        }
        survey.measure();
        return survey.evenestEdge(v);
    }

    public long expectedReach(int v, int x) {
        if (!forest.hasVertex(v)) {
            return NO_SUCH_INDEX;
        }
        if (x < 0 || x > MOST_TENTHS) {
            return BAD_VALUE;
        }
        survey.measure();
        return survey.reachOf(v, MOST_TENTHS - x);
    }

    // ---- observations

    public int observe(int u, int v, int d) {
        if (u < 0 || u >= MOST_VERTICES || v < 0 || v >= MOST_VERTICES) {
            return BAD_VALUE;
        }
        if (d < 0 || d > GREATEST_OBSERVED) {
            return BAD_VALUE;
        }
        return observations.store(u, v, d);
    }

    public int possibleWeights(int u, int v) {
        if (!forest.hasVertices(u, v)) {
            return NO_SUCH_INDEX;
        }
        if (!forest.hasEdge(u, v)) {
            return NOT_POSSIBLE;
        }
        survey.measure();
        return observations.countWeights(survey, u, v);
    }

    // ---- scripts, random changes

    public int runScript(int n, long script) {
        if (n < 1 || n > MOST_COMMANDS || script < 0) {
            return BAD_VALUE;
        }
        long scale = 1;
        for (int i = 0; i < n; i++) {
            scale *= GROUP;
        }
        if (script >= scale) {
            return BAD_VALUE;
        }
        trial.become(forest);
        for (int i = 0; i < n; i++) {
            scale /= GROUP;
            if (scale < 1 || !obeys((int) (script / scale % GROUP))) {
                return i;
            }
        }
        return NONE;
    }

    /** Runs one command on the trial forest. */
    private boolean obeys(int group) {
        int u = group / 100 % 100;
        int v = group % 100;
        switch (group / 10000) {
            case 1:
                return triesLink(u, v);
            case 2:
                return triesCut(u, v);
            case 3:
                return joinedInTrial(u, v);
            case 4:
                return joinedInTrial(u, v) && trialSurvey.middleOf(u) == v;
            case 5:
                return joinedInTrial(u, v) && leavesEarlier(u, v);
            default:
                return false;
        }
    }

    private boolean triesLink(int u, int v) {
        if (linkError(trial, trialSurvey, u, v, 1) != NO_ERROR) {
            return false;
        }
        trial.putEdge(u, v, 1);
        return true;
    }

    private boolean triesCut(int u, int v) {
        if (cutError(trial, u, v) != NO_ERROR) {
            return false;
        }
        trial.putEdge(u, v, NO_EDGE);
        return true;
    }

    private boolean joinedInTrial(int u, int v) {
        trialSurvey.measure();
        return trialSurvey.joined(u, v);
    }

    private boolean leavesEarlier(int u, int v) {
        contraction.contract(trial, u);
        int roundOfU = contraction.roundOf(u);
        int roundOfV = contraction.roundOf(v);
        return roundOfU != NONE && (roundOfV == NONE || roundOfU < roundOfV);
    }

    public int randomChanges(long seed, int m) {
        if (m < 1 || m > MOST_STEPS) {
            return BAD_VALUE;
        }
        trial.become(forest);
        long x = seed;
        int sum = 0;
        for (int step = 0; step < m; step++) {
            x = x * 6364136223846793005L + 1442695040888963407L;
            changeTrial((int) (x >>> 33));
            trialSurvey.measure();
            sum += trialSurvey.widthAround(0);
        }
        return sum;
    }

    /** Makes the change that the number r tells. */
    private void changeTrial(int r) {
        int n = trial.vertices();
        if (n < 1) {
            return;
        }
        int u = r % n;
        int v = r / 16 % n;
        int w = r / 256 % 99 + 1;
        if (trial.hasEdge(u, v)) {
            trial.putEdge(u, v, w % 2 == 0 ? NO_EDGE : w);
        } else if (linkError(trial, trialSurvey, u, v, w) == NO_ERROR) {
            trial.putEdge(u, v, w);
        }
    }

    // ---- save slots

    public int save(int slot) {
        if (slot < 0 || slot >= SLOTS) {
            return NO_SUCH_INDEX;
        }
        slots[slot].become(forest);
        filled[slot] = true;
        return forest.edgeCount();
    }

    public int restore(int slot) {
        if (slot < 0 || slot >= SLOTS) {
            return NO_SUCH_INDEX;
        }
        if (!filled[slot]) {
            return NOT_POSSIBLE;
        }
        forest.become(slots[slot]);
        history.forget();
        return forest.edgeCount();
    }

    /** The weights of the vertices and edges at one time. */
    private static final class Forest {
        private int count;
        private final int[] weights;
        private final int[][] edges;

        Forest() {
            weights = new int[MOST_VERTICES];
            edges = new int[MOST_VERTICES][MOST_VERTICES];
            reset(MOST_VERTICES);
        }

        /** Makes this a forest without edges; vertices is 1 to 12. */
        void reset(int vertices) {
            count = Math.max(1, Math.min(vertices, MOST_VERTICES));
            Arrays.fill(weights, 1);
            for (int v = 0; v < MOST_VERTICES; v++) {
                Arrays.fill(edges[v], NO_EDGE);
            }
        }

        void become(Forest other) {
            count = other.count;
            System.arraycopy(other.weights, 0, weights, 0, MOST_VERTICES);
            for (int v = 0; v < MOST_VERTICES; v++) {
                System.arraycopy(other.edges[v], 0, edges[v], 0, MOST_VERTICES);
            }
        }

        int vertices() {
            return count;
        }

        boolean hasVertex(int v) {
            return v >= 0 && v < count;
        }

        boolean hasVertices(int u, int v) {
            return u >= 0 && u < count && v >= 0 && v < count;
        }

        int weightOf(int v) {
            return hasVertex(v) ? weights[v] : 0;
        }

        void putWeight(int v, int w) {
            if (hasVertex(v)) {
                weights[v] = w;
            }
        }

        boolean hasEdge(int u, int v) {
            return edgeBetween(u, v) != NO_EDGE;
        }

        int edgeBetween(int u, int v) {
            return hasVertices(u, v) ? edges[u][v] : NO_EDGE;
        }

        void putEdge(int u, int v, int w) {
            if (hasVertices(u, v)) {
                edges[u][v] = w;
                edges[v][u] = w;
            }
        }

        int edgeCount() {
            int found = 0;
            for (int u = 0; u < count; u++) {
                for (int v = u + 1; v < count; v++) {
                    if (hasEdge(u, v)) {
                        found++;
                    }
                }
            }
            return found;
        }
    }

    /** All distances in one forest, as they were when it was last measured. */
    private static final class Survey {
        private final Forest forest;
        private int count;
        private final int[][] lengths;

        Survey(Forest forest) {
            this.forest = forest;
            lengths = new int[MOST_VERTICES][MOST_VERTICES];
        }

        void measure() {
            count = forest.vertices();
            for (int u = 0; u < count; u++) {
                for (int v = 0; v < count; v++) {
                    int edge = forest.edgeBetween(u, v);
                    lengths[u][v] = edge == NO_EDGE ? FAR : edge;
                }
                lengths[u][u] = 0;
            }
            for (int via = 0; via < count; via++) {
                for (int u = 0; u < count; u++) {
                    extendOver(via, u);
                }
            }
        }

        /** Joins the path from u to via, if it is known, with the paths that are known from there. */
        private void extendOver(int via, int u) {
            int start = lengths[u][via];
            if (start >= FAR) {
                return;
            }
            for (int v = 0; v < count; v++) {
                lengths[u][v] = Math.min(lengths[u][v], start + lengths[via][v]);
            }
        }

        /** The distance, or FAR for vertices of different trees, and for numbers that are no vertices. */
        int between(int u, int v) {
            if (u < 0 || u >= count || v < 0 || v >= count) {
                return FAR;
            }
            return lengths[u][v];
        }

        boolean joined(int u, int v) {
            return between(u, v) < FAR;
        }

        int edgeOf(int u, int v) {
            return forest.edgeBetween(u, v);
        }

        int smallestJoined(int v) {
            for (int u = 0; u < v; u++) {
                if (joined(u, v)) {
                    return u;
                }
            }
            return v;
        }

        int vertexOnPath(int u, int v, int i) {
            if (!joined(u, v) || i >= MOST_VERTICES) {
                return NONE;
            }
            int at = u;
            for (int step = 0; step < i; step++) {
                if (at == v) {
                    return NONE;
                }
                at = stepToward(at, v);
            }
            return at;
        }

        /** Only one neighbour is nearer to the goal, as the path to it is the only one. */
        private int stepToward(int at, int goal) {
            for (int next = 0; next < count; next++) {
                if (forest.hasEdge(at, next) && between(next, goal) < between(at, goal)) {
                    return next;
                }
            }
            return goal;
        }

        int greatestFrom(int v) {
            return between(v, firstFarthest(v));
        }

        int firstFarthest(int v) {
            int farthest = v;
            int greatest = -1;
            for (int u = 0; u < count; u++) {
                int length = between(u, v);
                if (length < FAR && length > greatest) {
                    farthest = u;
                    greatest = length;
                }
            }
            return farthest;
        }

        int widthAround(int v) {
            return greatestFrom(firstWideEnd(v));
        }

        /** The smallest end of a longest path of the tree of v; the other end of its path is then greater. */
        int firstWideEnd(int v) {
            int end = v;
            int greatest = -1;
            for (int u = 0; u < count; u++) {
                if (joined(u, v) && greatestFrom(u) > greatest) {
                    end = u;
                    greatest = greatestFrom(u);
                }
            }
            return end;
        }

        int middleOf(int v) {
            int middle = v;
            int least = HUGE;
            for (int u = 0; u < count; u++) {
                if (joined(u, v) && greatestFrom(u) < least) {
                    middle = u;
                    least = greatestFrom(u);
                }
            }
            return middle;
        }

        int priceOf(int v) {
            int sum = 0;
            for (int u = 0; u < count; u++) {
                if (joined(u, v)) {
                    sum += forest.weightOf(u) * between(u, v);
                }
            }
            return sum;
        }

        int cheapestOf(int v) {
            int cheapest = v;
            int least = HUGE;
            for (int u = 0; u < count; u++) {
                if (joined(u, v) && priceOf(u) < least) {
                    cheapest = u;
                    least = priceOf(u);
                }
            }
            return cheapest;
        }

        int meetingOf(int u, int v, int w) {
            if (!joined(u, v) || !joined(u, w)) {
                return NONE;
            }
            for (int x = 0; x < count; x++) {
                if (onPath(x, u, v) && onPath(x, v, w) && onPath(x, u, w)) {
                    return x;
                }
            }
            return NONE;
        }

        private boolean onPath(int x, int u, int v) {
            return between(u, x) + between(x, v) == between(u, v);
        }

        /** Whether the path between a and b goes over the edge between u and v, in either direction. */
        boolean goesOver(int a, int b, int u, int v) {
            int edge = forest.edgeBetween(u, v);
            int there = between(a, u) + edge + between(v, b);
            int back = between(a, v) + edge + between(u, b);
            return Math.min(there, back) == between(a, b);
        }

        /** The code of the balanced cut of the tree of v; the codes ascend as the loops go. */
        int evenestEdge(int v) {
            int code = NONE;
            int least = HUGE;
            for (int a = 0; a < count; a++) {
                for (int b = a + 1; b < count; b++) {
                    if (forest.hasEdge(a, b) && joined(a, v) && heavierPart(a, b) < least) {
                        code = 100 * a + b;
                        least = heavierPart(a, b);
                    }
                }
            }
            return code;
        }

        /** The weight of the heavier part that is left when the edge between a and b is removed. */
        private int heavierPart(int a, int b) {
            int partOfA = 0;
            int partOfB = 0;
            for (int u = 0; u < count; u++) {
                if (joined(u, a) && between(u, a) < between(u, b)) {
                    partOfA += forest.weightOf(u);
                } else if (joined(u, a)) {
                    partOfB += forest.weightOf(u);
                }
            }
            return Math.max(partOfA, partOfB);
        }

        long reachOf(int v, int tenthsThatHold) {
            long sum = 0;
            for (int u = 0; u < count; u++) {
                if (joined(u, v)) {
                    sum += forest.weightOf(u) * chanceOfPath(u, v, tenthsThatHold);
                }
            }
            return sum;
        }

        /** The chance that all edges between u and v hold, times 10 to the power of 11: at most 11 edges, so exact. */
        private long chanceOfPath(int u, int v, int tenthsThatHold) {
            long chance = 100000000000L;
            int at = u;
            for (int step = 0; step < MOST_VERTICES && at != v; step++) {
                chance = chance / MOST_TENTHS * tenthsThatHold;
                at = stepToward(at, v);
            }
            return chance;
        }
    }

    /** The contraction of one tree, by rounds of rake and compress. */
    private static final class Contraction {
        // An edge is NEW from its making to the end of the step; NO_EDGE is less than both.
        private static final int OLD = 1;
        private static final int NEW = 2;

        private int count;
        private int remaining;
        private int round;
        private final boolean[] present;
        private final boolean[] raked;
        private final int[] removedIn;
        private final int[][] edges;

        Contraction() {
            present = new boolean[MOST_VERTICES];
            raked = new boolean[MOST_VERTICES];
            removedIn = new int[MOST_VERTICES];
            edges = new int[MOST_VERTICES][MOST_VERTICES];
        }

        /** Contracts the tree of v; the other trees are left out. */
        void contract(Forest forest, int v) {
            copyEdges(forest);
            gatherTree(v);
            round = 0;
            while (remaining > 1 && round < MOST_VERTICES) {
                round++;
                rake();
                compress();
            }
        }

        int roundCount() {
            return round;
        }

        int roundOf(int v) {
            return isVertex(v) ? removedIn[v] : NONE;
        }

        int lastVertex() {
            for (int v = 0; v < count; v++) {
                if (present[v]) {
                    return v;
                }
            }
            return NONE;
        }

        private boolean isVertex(int v) {
            return v >= 0 && v < count;
        }

        private void copyEdges(Forest forest) {
            count = forest.vertices();
            for (int u = 0; u < count; u++) {
                for (int v = 0; v < count; v++) {
                    edges[u][v] = forest.edgeBetween(u, v) == NO_EDGE ? NO_EDGE : OLD;
                }
            }
        }

        private void gatherTree(int v) {
            for (int u = 0; u < MOST_VERTICES; u++) {
                present[u] = false;
                removedIn[u] = NONE;
            }
            remaining = 0;
            if (!isVertex(v)) {
                return;
            }
            present[v] = true;
            remaining = 1;
            for (int pass = 0; pass < count; pass++) {
                gatherNeighbours();
            }
        }

        private void gatherNeighbours() {
            for (int u = 0; u < count; u++) {
                for (int v = 0; v < count; v++) {
                    if (present[u] && !present[v] && edges[u][v] != NO_EDGE) {
                        present[v] = true;
                        remaining++;
                    }
                }
            }
        }

        private void rake() {
            if (remaining == 2) {
                removeGreatest();
                return;
            }
            // The leaves are marked first: a removal makes new ones, which stay in this round.
            for (int v = 0; v < count; v++) {
                raked[v] = present[v] && degreeOf(v) == 1;
            }
            for (int v = 0; v < count; v++) {
                if (raked[v]) {
                    remove(v);
                }
            }
        }

        private void removeGreatest() {
            for (int v = count - 1; v >= 0; v--) {
                if (present[v]) {
                    remove(v);
                    return;
                }
            }
        }

        private void compress() {
            makeEdgesOld();
            for (int v = 0; v < count; v++) {
                if (present[v] && degreeOf(v) == 2) {
                    bypass(v);
                }
            }
        }

        private void makeEdgesOld() {
            for (int u = 0; u < count; u++) {
                for (int v = 0; v < count; v++) {
                    edges[u][v] = Math.min(edges[u][v], OLD);
                }
            }
        }

        /** Replaces a vertex with two edges by one edge, unless one of the two is of this step. */
        private void bypass(int v) {
            int first = neighbourAfter(v, -1);
            int second = neighbourAfter(v, first);
            if (!isVertex(first) || !isVertex(second)) {
                return;
            }
            if (edges[v][first] == NEW || edges[v][second] == NEW) {
                return;
            }
            remove(v);
            edges[first][second] = NEW;
            edges[second][first] = NEW;
        }

        private int neighbourAfter(int v, int before) {
            for (int u = before + 1; u < count; u++) {
                if (u >= 0 && edges[v][u] != NO_EDGE) {
                    return u;
                }
            }
            return NONE;
        }

        private int degreeOf(int v) {
            int degree = 0;
            for (int u = 0; u < count; u++) {
                if (edges[v][u] != NO_EDGE) {
                    degree++;
                }
            }
            return degree;
        }

        private void remove(int v) {
            present[v] = false;
            removedIn[v] = round;
            remaining--;
            for (int u = 0; u < count; u++) {
                edges[u][v] = NO_EDGE;
                edges[v][u] = NO_EDGE;
            }
        }
    }

    /** The text buffer, and the reader of the setup in it. */
    private static final class SetupText {
        private static final int ROOM = 80;
        private static final int FAILED = -1;

        private int length;
        private final int[] signs;

        // The place of the next sign to read: where a reading fails, this is the error position.
        private int place;
        private final int[] treeMarks;

        SetupText() {
            signs = new int[ROOM];
            treeMarks = new int[MOST_VERTICES];
        }

        int size() {
            return length;
        }

        boolean put(int sign) {
            if (length >= ROOM) {
                return false;
            }
            signs[length] = sign;
            length++;
            return true;
        }

        void empty() {
            length = 0;
        }

        /** Reads the setup into the target; the answer is the error position, or NONE if the setup is complete. */
        int readInto(Forest target) {
            place = 0;
            if (take('F', 'F') == FAILED) {
                return place;
            }
            int vertices = takeNumber(1, MOST_VERTICES);
            if (vertices == FAILED) {
                return place;
            }
            target.reset(vertices);
            return takeWeights(target) && takeEdges(target) ? NONE : place;
        }

        private boolean takeWeights(Forest target) {
            for (int v = 0; v < target.vertices(); v++) {
                int weight = takeNumber(0, GREATEST_WEIGHT);
                if (weight == FAILED) {
                    return false;
                }
                target.putWeight(v, weight);
            }
            return true;
        }

        private boolean takeEdges(Forest target) {
            for (int v = 0; v < MOST_VERTICES; v++) {
                treeMarks[v] = v;
            }
            // Each edge needs two trees, so a forest of 12 vertices has no room for a twelfth edge.
            for (int edges = 0; edges < MOST_VERTICES && place < length; edges++) {
                if (!takeEdge(target)) {
                    return false;
                }
            }
            return true;
        }

        private boolean takeEdge(Forest target) {
            int last = 'a' + target.vertices() - 1;
            int u = take('a', last);
            int v = u == FAILED ? FAILED : take('a', last);
            if (u == FAILED || v == FAILED) {
                return false;
            }
            if (treeMarks[u] == treeMarks[v]) {
                // The second letter is the one that is wrong, and it has been taken already.
                place--;
                return false;
            }
            int weight = takeNumber(1, GREATEST_WEIGHT);
            if (weight == FAILED) {
                return false;
            }
            target.putEdge(u, v, weight);
            joinTrees(treeMarks[u], treeMarks[v]);
            return true;
        }

        private void joinTrees(int mark, int replaced) {
            for (int v = 0; v < MOST_VERTICES; v++) {
                if (treeMarks[v] == replaced) {
                    treeMarks[v] = mark;
                }
            }
        }

        /** Takes two digits, a number from least (0 or 1) to greatest; refuses a digit that no such number has there. */
        private int takeNumber(int least, int greatest) {
            int tens = take('0', '0' + greatest / 10);
            if (tens == FAILED) {
                return FAILED;
            }
            int lowest = tens == 0 ? least : 0;
            int highest = tens == greatest / 10 ? greatest % 10 : 9;
            int ones = take('0' + lowest, '0' + highest);
            return ones == FAILED ? FAILED : 10 * tens + lowest + ones;
        }

        /** Takes one sign from first to last; the answer is how far behind the first it is, or FAILED. */
        private int take(int first, int last) {
            if (place >= length) {
                return FAILED;
            }
            int sign = signs[place];
            if (sign < first || sign > last) {
                return FAILED;
            }
            place++;
            return sign - first;
        }
    }

    /** The states before the last actions. */
    private static final class History {
        private static final int ROOM = 14;

        private final Forest[] states;
        private int next;
        private int count;

        History() {
            states = new Forest[ROOM];
            for (int i = 0; i < ROOM; i++) {
                states[i] = new Forest();
            }
        }

        int size() {
            return count;
        }

        void remember(Forest state) {
            states[next].become(state);
            next = (next + 1) % ROOM;
            count = Math.min(count + 1, ROOM);
        }

        boolean takeBack(Forest target) {
            if (count == 0) {
                return false;
            }
            next = (next + ROOM - 1) % ROOM;
            count--;
            target.become(states[next]);
            return true;
        }

        void forget() {
            count = 0;
        }
    }

    /** The last observations. */
    private static final class Observations {
        private static final int ROOM = 6;

        private final int[] starts;
        private final int[] ends;
        private final int[] lengths;
        private int next;
        private int count;

        Observations() {
            starts = new int[ROOM];
            ends = new int[ROOM];
            lengths = new int[ROOM];
        }

        int store(int u, int v, int d) {
            starts[next] = u;
            ends[next] = v;
            lengths[next] = d;
            next = (next + 1) % ROOM;
            count = Math.min(count + 1, ROOM);
            return count;
        }

        /** How many weights of the edge between u and v agree with all observations. */
        int countWeights(Survey survey, int u, int v) {
            int least = 1;
            int greatest = GREATEST_WEIGHT;
            for (int i = 0; i < count; i++) {
                int off = lengths[i] - survey.between(starts[i], ends[i]);
                if (!survey.joined(starts[i], ends[i])) {
                    return 0;
                }
                if (survey.goesOver(starts[i], ends[i], u, v)) {
                    int needed = survey.edgeOf(u, v) + off;
                    least = Math.max(least, needed);
                    greatest = Math.min(greatest, needed);
                } else if (off != 0) {
                    return 0;
                }
            }
            return Math.max(0, greatest - least + 1);
        }
    }
}
