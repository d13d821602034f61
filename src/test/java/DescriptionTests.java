import java.util.Set;
import java.util.regex.Matcher;
import java.util.regex.Pattern;

/**
 * The description in ../shared/DOC.md, heading by heading: each sentence that names a boundary (too small, too large,
 * empty, full, a wrap-around, a refused call) has runs of calls of its own, which go wrong if the sentence is broken.
 */
public final class DescriptionTests extends Calls {
    private static final int LEAST = Integer.MIN_VALUE;
    private static final int MOST = Integer.MAX_VALUE;

    /** The longest setup: 12 vertices and 11 edges, 71 characters. */
    private static final String LONGEST = "F12010101010101010101010101ab01bc01cd01de01ef01fg01gh01hi01ij01jk01kl01";

    private static final String ONE = loaded("F0101");
    private static final String FIVE = loaded("F050101010101");

    public static void main(String[] args) {
        whatItIs();
        forests();
        lengths();
        costs();
        meetings();
        contractionInRounds();
        rake();
        compress();
        balancedCut();
        expectedReach();
        observations();
        setupParts();
        errorPositions();
        actions();
        whatIsNoState();
        scriptsAsNumbers();
        scriptCommands();
        errors();
        constants();
        examples();
        Set<String> elsewhere = Set.of("Examples", "Not promised");
        Sentences.checkAllNamed(heading -> !heading.startsWith("Promise") && !elsewhere.contains(heading));
        finish();
    }

    private static void whatItIs() {
        String heading = "What it is";
        Sentences.plain(heading, "A dynamic forest of weighted trees: edges are linked, cut and reweighted; it answers distances, paths, "
            + "diameters, centres, weighted medians and lowest common ancestors, finds balanced cuts and expected reach under random "
            + "edge failures, and contracts each tree by rounds of rake and compress.");
        Sentences.test(heading, "An object is used for at most 512 calls after it has been made; what later calls answer is free.",
            "link(0, 1, 5) = 1; cut(0, 1) = 5; ".repeat(256),
            "setVertexWeight(3, 1) = 1; ".repeat(496) + undos(13, 0) + "undo() = -3; undo() = -3",
            appended(80) + "append(120) = -4; ".repeat(431) + "clearText() = 80",
            "observe(0, 0, 0) = 1; observe(0, 0, 0) = 2; observe(0, 0, 0) = 3; observe(0, 0, 0) = 4; observe(0, 0, 0) = 5; "
                + "observe(0, 0, 0) = 6; ".repeat(507),
            chain(99) + "expectedReach(0, 1) = 717570463519; ".repeat(501),
            chain(99) + "rounds(0) = 3; ".repeat(501),
            "save(0) = 0; restore(0) = 0; ".repeat(256),
            "randomChanges(9223372036854775807, 60) = 16051; ".repeat(512));
    }

    private static void forests() {
        String heading = "FOREST";
        Sentences.test(heading, "There are n vertices, 1 to 12, numbered from 0.",
            ONE + lone(0), ONE + strange(1), ONE + strange(-1),
            FIVE + lone(0), FIVE + lone(4), FIVE + strange(5), FIVE + strange(11), FIVE + strange(-1),
            lone(0), lone(11), strange(12), strange(-1), strange(MOST), strange(LEAST),
            "text(F00) = 3; errorPosition() = 2; load() = -3; treeOf(11) = 11",
            "text(F13) = 3; errorPosition() = 2; load() = -3; treeOf(11) = 11");
        Sentences.test(heading, "Each vertex has a weight from 0 to 99.",
            "setVertexWeight(0, 0) = 1; vertexWeight(0) = 0; setVertexWeight(0, 99) = 0; vertexWeight(0) = 99",
            each("setVertexWeight(0, ?)", -2, -1, 100, LEAST, MOST) + "vertexWeight(0) = 1",
            loaded("F020099") + "vertexWeight(0) = 0; vertexWeight(1) = 99");
        Sentences.test(heading, "Some pairs of different vertices are joined by an edge with a weight from 1 to 99.",
            "link(0, 1, 1) = 1; link(1, 2, 99) = 2; edgeWeight(0, 1) = 1; edgeWeight(1, 2) = 99",
            each("link(0, 1, ?)", -2, 0, 100, -1, LEAST, MOST) + "edgeWeight(0, 1) = -9",
            links("0-1:50") + "setEdgeWeight(0, 1, 1) = 50; setEdgeWeight(0, 1, 99) = 1; " + each("setEdgeWeight(0, 1, ?)", -2, 0, 100)
                + "edgeWeight(0, 1) = 99",
            each("link(?, ?, 1)", -3, 0, 5, 11) + each("edgeWeight(?, ?)", -9, 0, 5, 11),
            loaded("F03010101ab01bc99") + "edgeWeight(0, 1) = 1; edgeWeight(1, 2) = 99; edgeWeight(0, 2) = -9");
        Sentences.test(heading, "The edges never form a cycle, so they form a forest; its connected parts are called trees.",
            links("0-1") + "link(0, 1, 1) = -3; link(1, 0, 1) = -3; edgeWeight(0, 1) = 1",
            path(1, 0, 1, 2) + "link(2, 0, 1) = -3; edgeWeight(0, 2) = -9; cut(0, 1) = 1; link(2, 0, 1) = 2; link(1, 0, 1) = -3; "
                + "edgeWeight(0, 2) = 1",
            chain(1) + "link(0, 11, 1) = -3; link(0, 2, 1) = -3; edgeWeight(0, 11) = -9; treeOf(11) = 0; cut(5, 6) = 1; treeOf(11) = 6; "
                + "treeOf(5) = 0; link(11, 0, 1) = 11; treeOf(6) = 0",
            path(1, 0, 1, 2) + script("10002", 0) + "edgeWeight(0, 2) = -9",
            loaded("F03010101ab05bc07") + "randomChanges(802, 1) = 12; edgeWeight(0, 2) = -9");
        StringBuilder fresh = new StringBuilder("clearText() = 0; undo() = -3; link(12, 0, 1) = -1; ");
        for (int v = 0; v < 12; v++) {
            fresh.append("vertexWeight(").append(v).append(") = 1; treeOf(").append(v).append(") = ").append(v).append("; ");
        }
        Sentences.test(heading, "A new object has 12 vertices with the weight 1 and no edges.",
            fresh + "vertexWeight(12) = -1; treeOf(12) = -1; save(0) = 0", noEdges() + "save(1) = 0");
    }

    private static void lengths() {
        String heading = "FOREST";
        Sentences.test(heading,
            "The distance of two vertices of the same tree is the sum of the weights of the edges on the path between them.",
            "distance(0, 0) = 0; distance(11, 11) = 0", links("3-8:1") + "distance(3, 8) = 1; distance(8, 3) = 1; distance(8, 8) = 0",
            chain(99) + "distance(0, 11) = 1089; distance(11, 0) = 1089; distance(0, 10) = 990; distance(1, 2) = 99");
        Sentences.test(heading, "The eccentricity of a vertex is its greatest distance from a vertex of its tree.",
            "eccentricity(0) = 0; eccentricity(11) = 0", links("3-8:1") + "eccentricity(3) = 1; eccentricity(8) = 1; eccentricity(0) = 0",
            chain(99) + "eccentricity(0) = 1089; eccentricity(11) = 1089; eccentricity(5) = 594; eccentricity(6) = 594");
        Sentences.test(heading, "The diameter of a tree is the greatest distance of two of its vertices.",
            "diameter(0) = 0; diameter(11) = 0", links("3-8:1") + "diameter(3) = 1; diameter(8) = 1; diameter(0) = 0",
            chain(99) + "diameter(0) = 1089; diameter(5) = 1089; diameter(11) = 1089",
            links("5-0:7 5-1:8 5-2:1") + "diameter(5) = 15; diameter(2) = 15");
        Sentences.test(heading, "The centre of a tree is its vertex with the smallest eccentricity; "
                + "among several it is the one with the smallest number.",
            "centre(0) = 0; centre(11) = 11", links("8-3") + "centre(8) = 3; centre(3) = 3",
            links("5-8:3 8-6:2 6-1:3") + "eccentricity(8) = 5; eccentricity(6) = 5; " + each("centre(?)", 6, 5, 8, 6, 1),
            links("5-8:3 8-6:2 6-1:2") + each("centre(?)", 8, 5, 8, 6, 1));
    }

    private static void costs() {
        String heading = "FOREST";
        Sentences.test(heading,
            "The cost of a vertex v is the sum, over all vertices u of its tree, of (weight of u) * (distance from u to v).",
            "setVertexWeight(0, 99) = 1; cost(0) = 0; cost(11) = 0",
            links("0-1:99") + "setVertexWeight(0, 0) = 1; cost(1) = 0; cost(0) = 99; setVertexWeight(0, 99) = 0; cost(1) = 9801; "
                + "cost(5) = 0",
            weights(99) + chain(99) + "cost(0) = 646866; cost(11) = 646866");
        Sentences.test(heading, "The median of a tree is its vertex with the smallest cost; "
                + "among several it is the one with the smallest number.",
            "median(0) = 0; median(11) = 11; setVertexWeight(11, 0) = 1; median(11) = 11",
            path(1, 5, 8, 6, 1) + "cost(8) = 4; cost(6) = 4; " + each("median(?)", 6, 5, 8, 6, 1),
            path(9, 5, 8, 6, 3) + each("setVertexWeight(?, 0)", 1, 5, 8, 6, 3) + each("cost(?)", 0, 5, 8, 6, 3)
                + each("median(?)", 3, 5, 8, 6, 3));
    }

    private static void meetings() {
        Sentences.test("FOREST",
            "The meeting vertex of three vertices of one tree is the only vertex that lies on all three paths between two of them.",
            "meeting(0, 0, 0) = 0; meeting(11, 11, 11) = 11",
            links("3-8") + "meeting(3, 8, 8) = 8; meeting(8, 3, 8) = 8; meeting(8, 8, 3) = 8; meeting(3, 3, 8) = 3",
            path(1, 4, 2, 9) + "meeting(4, 2, 9) = 2; meeting(9, 4, 2) = 2; meeting(2, 9, 4) = 2; meeting(4, 9, 9) = 9; "
                + "meeting(4, 4, 9) = 4",
            links("5-0 5-1 5-2") + "meeting(0, 1, 2) = 5; meeting(2, 0, 1) = 5; meeting(0, 1, 5) = 5; meeting(1, 2, 2) = 2");
    }

    private static void contractionInRounds() {
        String heading = "CONTRACTION";
        Sentences.plain(heading, "Contraction shows how a tree shrinks to one vertex.");
        Sentences.test(heading, "It works on a copy of the tree, in rounds, until one vertex is left, the survivor.",
            "rounds(0) = 0; survivor(0) = 0; removalRound(0) = -9; rounds(11) = 0; survivor(11) = 11; removalRound(11) = -9",
            chain(5) + "rounds(0) = 3; survivor(11) = 7; removalRound(7) = -9; distance(0, 11) = 55; edgeWeight(1, 2) = 5; "
                + "edgeWeight(1, 3) = -9; save(0) = 11; "
                + "undo() = 10; treeOf(11) = 11; rounds(0) = 3");
        Sentences.plain(heading, "Each round has two steps.");
        Sentences.test(heading, "The removal round of a vertex is the number of the round, from 1 on, in which it is removed.",
            links("3-8") + "removalRound(8) = 1; removalRound(3) = -9; removalRound(0) = -9",
            chain(1) + each("removalRound(?)", 1, 0, 2, 4, 6, 8, 11) + each("removalRound(?)", 2, 1, 5, 10)
                + each("removalRound(?)", 3, 3, 9) + "removalRound(7) = -9");
    }

    private static void rake() {
        String heading = "CONTRACTION";
        Sentences.test(heading,
            "Step 1, rake: all vertices that have exactly one neighbour at the beginning of the round are removed at once, with their "
                + "edges.",
            // 1 and 2 have one neighbour only when 0 and 3 are gone: they stay in this round.
            path(1, 0, 1, 2, 3) + "removalRound(0) = 1; removalRound(3) = 1; removalRound(2) = 2; removalRound(1) = -9; rounds(0) = 2",
            // Three leaves go, 3 with three neighbours stays, and all is done.
            links("3-0 3-1 3-2") + "removalRound(0) = 1; removalRound(1) = 1; removalRound(2) = 1; survivor(0) = 3; rounds(3) = 1",
            // Two stars: both middles have lost their leaves, and are joined by the only edge that is left.
            links("0-1 0-2 0-3 3-4 3-5") + each("removalRound(?)", 1, 1, 2, 4, 5) + "removalRound(3) = 2; survivor(4) = 0");
        Sentences.test(heading, "But if the tree has just two vertices then, only the one with the greater number is removed.",
            links("11-0") + "removalRound(11) = 1; removalRound(0) = -9; survivor(11) = 0; rounds(0) = 1",
            links("0-11") + "removalRound(11) = 1; removalRound(0) = -9; survivor(0) = 0; rounds(11) = 1",
            // The tree, not the forest, has two vertices.
            links("10-9 0-1 1-2 2-3") + "survivor(10) = 9; survivor(9) = 9; rounds(9) = 1; removalRound(10) = 1",
            // In a later round; and three vertices are not two.
            path(1, 3, 2, 1, 0) + "removalRound(2) = 2; survivor(3) = 1; rounds(0) = 2",
            path(1, 5, 9, 4) + "removalRound(5) = 1; removalRound(4) = 1; survivor(4) = 9; rounds(4) = 1");
        Sentences.test(heading, "(So of a star only the middle is left.)",
            links("3-9 9-7") + "removalRound(3) = 1; removalRound(7) = 1; survivor(3) = 9; rounds(3) = 1",
            links("0-1 0-2 0-3 0-4 0-5 0-6 0-7 0-8 0-9 0-10 0-11") + each("removalRound(?)", 1, 1, 2, 3, 4, 5, 6, 7, 8, 9, 10, 11)
                + "survivor(5) = 0; rounds(0) = 1",
            links("11-0 11-1 11-2 11-3 11-4 11-5 11-6 11-7 11-8 11-9 11-10") + each("removalRound(?)", 1, 0, 1, 2, 3, 4, 5, 6, 7, 8, 9, 10)
                + "survivor(5) = 11; rounds(11) = 1");
    }

    private static void compress() {
        String heading = "CONTRACTION";
        Sentences.test(heading, "Step 2, compress: the vertices that are left are looked at by ascending numbers.",
            // The rake leaves 0 - 2 - 1 - 3: 1 is looked at before 2, though it comes behind it on the path.
            path(1, 8, 0, 2, 1, 3, 9) + "removalRound(1) = 1; removalRound(2) = -9; removalRound(0) = 2; removalRound(3) = 2; "
                + "survivor(8) = 2",
            path(1, 8, 0, 1, 2, 3, 9) + "removalRound(1) = 1; removalRound(2) = -9; survivor(8) = 2",
            path(1, 8, 3, 2, 1, 0, 9) + "removalRound(1) = 1; removalRound(2) = -9; survivor(8) = 2");
        Sentences.test(heading,
            "A vertex that has exactly two edges at this moment is removed, with its edges, unless one of these two edges was created "
                + "earlier in this step.",
            // Three edges are not two, and one is not.
            links("0-1 0-2 0-3 1-4 2-5 3-6") + "removalRound(0) = -9; removalRound(1) = 2; removalRound(2) = 2; removalRound(3) = 2; "
                + "rounds(0) = 2",
            // At this moment: 1 had three edges, and has two since 11 has been raked.
            links("9-0 0-1 1-2 2-10 1-11") + "removalRound(1) = 1; removalRound(2) = 2; survivor(11) = 0; rounds(0) = 2",
            // One of two is created: 2 stays; then both are: 1 - 2 stays between the places of 0 and 1.
            path(1, 8, 10, 1, 2, 3, 11, 9) + "removalRound(1) = 1; removalRound(2) = -9; removalRound(3) = 1; rounds(8) = 2",
            path(1, 8, 10, 0, 2, 1, 11, 9) + "removalRound(0) = 1; removalRound(1) = 1; removalRound(2) = -9; rounds(8) = 2",
            // Created in an earlier step: 5 stays in the first round and goes in the second; the others go between such an edge and one
            // that was there from the beginning.
            chain(1) + "removalRound(5) = 2; removalRound(7) = -9; removalRound(4) = 1",
            links("0-1 1-2 0-3 3-4 4-5 5-6 0-7 7-8 8-9 9-10") + "removalRound(3) = 1; removalRound(0) = 2; survivor(0) = 4; rounds(0) = 3",
            links("0-1 1-2 0-3 3-4 0-5 5-6 6-7 7-8 8-9 9-10 10-11") + "removalRound(5) = 1; removalRound(6) = 2; removalRound(8) = 3; "
                + "survivor(0) = 0; rounds(0) = 3");
        Sentences.test(heading, "When it is removed, an edge between its two neighbours is created.",
            // 1 and 3 are neighbours then, the last two: the greater one goes.
            path(1, 0, 1, 2, 3, 4) + "removalRound(2) = 1; removalRound(3) = 2; survivor(4) = 1; rounds(0) = 2",
            // The created edge counts: 4 has three edges, one of them created, and is not compressed.
            links("4-1 1-5 5-8 4-6 6-9 4-7 7-10") + "removalRound(1) = 1; removalRound(5) = 2; removalRound(4) = -9; rounds(4) = 2");
    }

    private static void balancedCut() {
        String heading = "BALANCED CUT";
        Sentences.test(heading, "When an edge is removed, its tree falls into two parts.",
            links("3-8") + "balancedCut(3) = 308; balancedCut(8) = 308; treeOf(8) = 3; edgeWeight(3, 8) = 1; undo() = 0; "
                + "balancedCut(3) = -9",
            // The second tree belongs to no part, whatever it weighs.
            links("0-1 1-2 5-6") + "setVertexWeight(5, 99) = 1; balancedCut(0) = 1; balancedCut(6) = 506");
        Sentences.test(heading, "The load of the edge is the sum of the vertex weights of the heavier part.",
            // The loads of 0-1, 1-2 and 2-3 are 101, 100 and 99: one heavy vertex outweighs three.
            path(1, 0, 1, 2, 3) + "setVertexWeight(3, 99) = 1; balancedCut(0) = 203; setVertexWeight(3, 0) = 99; balancedCut(0) = 1; "
                + "setVertexWeight(3, 2) = 0; balancedCut(0) = 102",
            // The first part weighs nothing; its load is that of the other part.
            path(1, 0, 1, 2) + "setVertexWeight(0, 0) = 1; balancedCut(0) = 102",
            weights(99) + chain(1) + "balancedCut(0) = 506");
        Sentences.test(heading, "The balanced cut of a tree is the edge with the smallest load; "
                + "among several it is the one with the smallest code.",
            path(1, 2, 1, 0) + "balancedCut(2) = 1", path(1, 9, 11, 10) + "balancedCut(10) = 911",
            links("5-2 5-0 5-4") + "balancedCut(5) = 5",
            path(1, 0, 9, 3, 1) + each("setVertexWeight(?, 0)", 1, 0, 9, 3, 1) + "balancedCut(3) = 9",
            path(1, 3, 9, 0, 1) + each("setVertexWeight(?, 0)", 1, 0, 9, 3, 1) + "balancedCut(3) = 1",
            path(1, 6, 1, 8, 2, 7) + "balancedCut(6) = 108; setVertexWeight(6, 2) = 1; balancedCut(6) = 108; setVertexWeight(6, 5) = 2; "
                + "balancedCut(6) = 106");
        Sentences.test(heading, "The code of an edge between a and b, where a is less than b, is 100 * a + b.",
            links("0-1") + "balancedCut(1) = 1", links("1-0") + "balancedCut(1) = 1", links("11-10") + "balancedCut(11) = 1011",
            links("11-0") + "balancedCut(11) = 11", links("10-1") + "balancedCut(1) = 110");
    }

    private static void expectedReach() {
        String heading = "EXPECTED REACH";
        Sentences.test(heading, "Each edge fails with probability x / 10 (x from 0 to 10), independently of the others.",
            path(1, 0, 1, 2) + "expectedReach(0, 0) = 300000000000; expectedReach(0, 10) = 100000000000; "
                + "expectedReach(0, 5) = 175000000000; "
                + "expectedReach(1, 5) = 200000000000; expectedReach(0, 1) = 271000000000; expectedReach(0, 9) = 111000000000",
            path(1, 0, 1, 2) + each("expectedReach(0, ?)", -2, -1, 11, LEAST, MOST));
        Sentences.test(heading,
            "The expected reach of a vertex v is the expected sum of the weights of all vertices that are still connected with v, "
            + "v itself included (edge weights do not matter).",
            "setVertexWeight(4, 7) = 1; expectedReach(4, 10) = 700000000000; expectedReach(4, 0) = 700000000000; "
                + "setVertexWeight(4, 0) = 7; expectedReach(4, 5) = 0",
            links("0-1:99 1-2:1") + "expectedReach(0, 5) = 175000000000; setEdgeWeight(0, 1, 1) = 99; expectedReach(0, 5) = 175000000000; "
                + "setVertexWeight(1, 0) = 1; expectedReach(0, 5) = 125000000000; expectedReach(5, 5) = 100000000000");
        // With the weight 1 on a path of 11 edges: the sum of (10 - x)^k * 10^(11 - k), k from 0 to 11.
        Sentences.test(heading, "10 to the power of 11 times the expected reach is always an integer.",
            chain(1) + "expectedReach(0, 1) = 717570463519; expectedReach(11, 1) = 717570463519; expectedReach(0, 3) = 328719570933; "
                + "expectedReach(0, 9) = 111111111111; expectedReach(0, 0) = 1200000000000; expectedReach(0, 10) = 100000000000",
            weights(99) + chain(1) + "expectedReach(0, 0) = 118800000000000; expectedReach(0, 1) = 71039475888381; "
                + "expectedReach(0, 10) = 9900000000000");
    }

    private static void observations() {
        String heading = "OBSERVATIONS";
        String edge = links("0-1:5");
        Sentences.test(heading,
            "An observation (u, v, d) says that the vertices u and v are in the same tree and have the distance d (u and v may be equal).",
            edge + "observe(7, 7, 0) = 1; possibleWeights(0, 1) = 99; observe(7, 7, 1) = 2; possibleWeights(0, 1) = 0",
            edge + "observe(0, 0, 0) = 1; possibleWeights(0, 1) = 99; observe(0, 0, 5) = 2; possibleWeights(0, 1) = 0",
            edge + "observe(0, 2, 0) = 1; possibleWeights(0, 1) = 0", edge + "observe(2, 3, 5) = 1; possibleWeights(0, 1) = 0",
            edge + "observe(1, 0, 8) = 1; possibleWeights(0, 1) = 1",
            links("0-1:5 2-3:7") + "observe(2, 3, 7) = 1; possibleWeights(0, 1) = 99; "
                + "observe(2, 3, 8) = 2; possibleWeights(0, 1) = 0");
        Sentences.test(heading, "The object stores the last 6 observations; a seventh one replaces the oldest.",
            // The first one never holds: the sixth leaves it there, the seventh replaces it, and no other.
            edge + "observe(0, 0, 1) = 1; observe(0, 0, 0) = 2; observe(0, 0, 0) = 3; observe(0, 0, 0) = 4; observe(0, 0, 0) = 5; "
                + "observe(0, 0, 0) = 6; "
                + "possibleWeights(0, 1) = 0; observe(0, 0, 0) = 6; possibleWeights(0, 1) = 99",
            edge + "observe(0, 0, 0) = 1; observe(0, 0, 1) = 2; observe(0, 0, 0) = 3; observe(0, 0, 0) = 4; observe(0, 0, 0) = 5; "
                + "observe(0, 0, 0) = 6; "
                + "observe(0, 0, 0) = 6; possibleWeights(0, 1) = 0; observe(0, 0, 0) = 6; possibleWeights(0, 1) = 99",
            // The thirteenth replaces the seventh.
            edge + "observe(0, 0, 0) = 1; observe(0, 0, 0) = 2; observe(0, 0, 0) = 3; observe(0, 0, 0) = 4; observe(0, 0, 0) = 5; "
                + "observe(0, 0, 0) = 6; "
                + "observe(0, 0, 1) = 6; " + "observe(0, 0, 0) = 6; ".repeat(5) + "possibleWeights(0, 1) = 0; observe(0, 0, 0) = 6; "
                + "possibleWeights(0, 1) = 99");
        Sentences.plain(heading, "Suppose that the weight of one edge is unknown.");
        Sentences.test(heading,
            "A weight from 1 to 99 is possible for this edge if all stored observations hold when the edge has this weight and "
                + "everything else is "
            + "as it is at the time of the question.",
            edge + "possibleWeights(0, 1) = 99",
            edge + "observe(0, 1, 0) = 1; possibleWeights(0, 1) = 0", edge + "observe(0, 1, 1) = 1; possibleWeights(0, 1) = 1",
            edge + "observe(0, 1, 99) = 1; possibleWeights(0, 1) = 1", edge + "observe(0, 1, 100) = 1; possibleWeights(0, 1) = 0",
            edge + "observe(0, 1, 999) = 1; possibleWeights(0, 1) = 0",
            // All of them: two that agree, then a third that does not.
            edge + "observe(0, 1, 7) = 1; observe(1, 0, 7) = 2; possibleWeights(0, 1) = 1; observe(0, 1, 8) = 3; possibleWeights(0, 1) = 0",
            // Also one that the edge has no part in.
            links("0-1:5 1-2:1") + "observe(1, 2, 3) = 1; possibleWeights(0, 1) = 0; setEdgeWeight(1, 2, 3) = 1; "
                + "possibleWeights(0, 1) = 99; observe(0, 1, 8) = 2; possibleWeights(0, 1) = 1; possibleWeights(1, 2) = 0",
            // At the time of the question: the other edge has got longer, is cut, and is linked again.
            links("0-1:5 1-2:1") + "observe(0, 2, 9) = 1; possibleWeights(0, 1) = 1; setEdgeWeight(1, 2, 8) = 1; "
                + "possibleWeights(0, 1) = 1; setEdgeWeight(1, 2, 9) = 8; "
                + "possibleWeights(0, 1) = 0; cut(1, 2) = 9; possibleWeights(0, 1) = 0; link(0, 2, 9) = 2; possibleWeights(0, 1) = 99; "
                + "edgeWeight(0, 1) = 5",
            links("0-1:5 1-2:1") + "observe(0, 2, 100) = 1; possibleWeights(0, 1) = 1; possibleWeights(1, 2) = 1; "
                + "setEdgeWeight(0, 1, 1) = 5; possibleWeights(1, 2) = 1; "
                + "observe(0, 2, 101) = 2; possibleWeights(1, 2) = 0");
        Sentences.test(heading, "An observation with a vertex that does not exist does not hold.",
            loaded("F020101ab05") + "observe(2, 2, 0) = 1; possibleWeights(0, 1) = 0",
            loaded("F020101ab05") + "observe(11, 11, 0) = 1; possibleWeights(0, 1) = 0",
            loaded("F020101ab05") + "observe(0, 2, 5) = 1; possibleWeights(0, 1) = 0",
            loaded("F020101ab05") + "observe(2, 0, 5) = 1; possibleWeights(0, 1) = 0",
            // Stored while 2 is there; it goes, and comes back.
            edge + "observe(2, 2, 0) = 1; possibleWeights(0, 1) = 99; " + loaded("F020101ab05") + "possibleWeights(0, 1) = 0; "
                + "clearText() = 11; "
                + loaded("F03010101ab05") + "possibleWeights(0, 1) = 99");
    }

    private static void setupParts() {
        String heading = "SETUP TEXT";
        Sentences.test(heading, "The object has a text buffer of at most 80 characters.",
            appended(80) + "append(120) = -4; clearText() = 80; append(120) = 1", appended(79) + "append(120) = 80; append(120) = -4",
            "text(" + LONGEST + ") = 71; load() = 11; append(97) = 72; append(98) = 73; append(48) = 74; append(49) = 75; "
                + "errorPosition() = 72; load() = -3");
        Sentences.test(heading,
            "A setup is the letter F, the number n of vertices (two digits, 01 to 12), the weights of the vertices in order (two "
                + "digits each), "
            + "and then any number of edges.",
            text("f0101", 0), text("E0101", 0), text("G0101", 0), text("0101", 0), text(" F0101", 0),
            text("F0001", 2), text("F0101", -9) + "; load() = 0; treeOf(0) = 0; treeOf(1) = -1", text("F1301", 2), text("F2", 1),
            text("F20", 1), text("F99", 1),
            text("F1", 2), text("F/1", 1), text("F:1", 1), text("F0/", 2), text("F0:", 2), text("F1/", 2), text("Fa1", 1), text("F0a", 2),
            text("F12" + "01".repeat(12), -9) + "; load() = 0; treeOf(11) = 11; treeOf(12) = -1", text("F11" + "01".repeat(11), -9),
            text("F10" + "01".repeat(10), -9),
            text("F09" + "01".repeat(9), -9), text("F12" + "01".repeat(11), 25), text("F11" + "01".repeat(12), 25),
            text("F020099", -9) + "; load() = 0; vertexWeight(0) = 0; vertexWeight(1) = 99",
            text("F029900", -9) + "; load() = 0; vertexWeight(0) = 99; vertexWeight(1) = 0",
            text("F02/000", 3), text("F02:000", 3), text("F020/00", 4), text("F020:00", 4), text("F0200a0", 5), text("F02000a", 6),
            text("F03000000", -9) + "; load() = 0", text("F03000000ab01", -9) + "; load() = 1",
            text("F03000000ab01bc01", -9) + "; load() = 2",
            text(LONGEST, -9) + "; load() = 11");
        Sentences.test(heading, "An edge is two letters for its vertices (a for vertex 0, b for vertex 1, and so on; "
                + "the order does not matter) and two digits for its weight, "
            + "01 to 99.",
            text("F020000ab01", -9) + "; load() = 1; edgeWeight(0, 1) = 1",
            text("F020000ba99", -9) + "; load() = 1; edgeWeight(0, 1) = 99; edgeWeight(1, 0) = 99",
            text("F020000ab00", 10), text("F020000ab10", -9) + "; load() = 1; edgeWeight(0, 1) = 10", text("F020000ab/1", 9),
            text("F020000ab:1", 9),
            text("F020000ab0/", 10), text("F020000ab0:", 10), text("F020000ab9:", 10), text("F020000aba1", 9),
            text("F020000`b01", 7), text("F020000cb01", 7), text("F020000ac01", 8), text("F020000a`01", 8), text("F020000AB01", 7),
            text("F020000aB01", 8),
            text("F020000b", 8), text("F020000c", 7), text("F01000", 5), text("F0100b", 5),
            text("F12" + "01".repeat(12) + "la42", -9) + "; load() = 1; edgeWeight(0, 11) = 42", text("F12" + "01".repeat(12) + "ma42", 27),
            text("F12" + "01".repeat(12) + "am42", 28), text("F11" + "01".repeat(11) + "la42", 25),
            text("F11" + "01".repeat(11) + "ak42", -9));
        Sentences.test(heading, "The two vertices must be in different trees of the edges before it.",
            text("F020000aa01", 8), text("F020000bb01", 8), text("F020000ab01ab01", 12), text("F020000ab01ba01", 12),
            text("F020000ba01ab01", 12), text("F03000000ab01bc01ca01", 18), text("F03000000ab01bc01ac01", 18),
            text("F03000000ba01cb01ac01", 18), text("F0400000000ab01cd01bc01ad01", 24),
            text("F0400000000ab01cd01ad01", -9) + "; load() = 3",
            text(LONGEST + "la01", 72), text("F0100aa01", 6));
        Sentences.test(heading, "There are no separators.",
            text(" F0100", 0), text("F 0100", 1), text("F01 00", 3), text("F02 0000", 3), text("F0200 00", 5), text("F0200,00", 5),
            text("F020000 ab01", 7),
            text("F020000a b01", 8), text("F020000ab 01", 9), text("F020000ab01 ", 11), text("F03000000ab01 bc01", 13),
            text("F0100\n", 5), text("F0100\0", 5));
    }

    private static void errorPositions() {
        String heading = "SETUP TEXT";
        Sentences.test(heading, "The text is read from left to right.",
            // Of several faults the first one counts, though the ones behind it are there from the beginning.
            text("G99xx", 0), text("F00xx", 2), text("F02x0y0aa00", 3), text("F020000aa00", 8), text("F020000ab00ab00", 10),
            text("F030000", 7),
            text("F03000000ab01ab01xx", 14));
        Sentences.test(heading, "The error position is the index of the first character that these rules do not allow at its place "
            + "(for two vertices of the same tree, the second letter; for the number 00, its second digit);",
            text("", 0), text("x", 0), text("F020000aa01", 8), text("F03000000ab01bc01ca01", 18), text("F00", 2),
            text("F020000ab00", 10), text("F020000", -9),
            text("F020000ab01x", 11), text("F020000ab01cb01", 11), text("F020000ab01ac01", 12), text("x".repeat(80), 0),
            text(LONGEST + "aaaaaaaaa", 72),
            text(LONGEST + "xxxxxxxxx", 71), each("append(?)", 1, 0) + "errorPosition() = 0",
            each("append(?)", 1, 255) + "errorPosition() = 0",
            "append(70) = 1; append(255) = 2; errorPosition() = 1; load() = -3", "append(326) = -2; errorPosition() = 0");
        Sentences.test(heading, "if the text ends too soon, the error position is the length of the text.", prefixes("F0405060708"),
            prefixes("F020405ba31"),
            prefixes("F03010203ab42bc53"), text("F0100a", 6), text(LONGEST + "a", 72));
    }

    private static void actions() {
        String heading = "ACTIONS AND UNDO";
        Sentences.test(heading,
            "Each successful call of link, cut, setEdgeWeight and setVertexWeight is an action, even if nothing changes.",
            "link(0, 1, 5) = 1; undo() = 0; edgeWeight(0, 1) = -9; undo() = -3",
            "link(0, 1, 5) = 1; cut(0, 1) = 5; undo() = 1; edgeWeight(0, 1) = 5; undo() = 0",
            "link(0, 1, 5) = 1; setEdgeWeight(0, 1, 6) = 5; undo() = 1; edgeWeight(0, 1) = 5; undo() = 0",
            "link(0, 1, 5) = 1; setEdgeWeight(0, 1, 5) = 5; undo() = 1; edgeWeight(0, 1) = 5; undo() = 0; edgeWeight(0, 1) = -9",
            "setVertexWeight(0, 6) = 1; undo() = 0; vertexWeight(0) = 1", "setVertexWeight(0, 1) = 1; undo() = 0; undo() = -3",
            // Actions that change nothing take a place among the 14 too.
            "setVertexWeight(0, 6) = 1; " + "setVertexWeight(1, 1) = 1; ".repeat(14) + undos(13, 0) + "undo() = -3; vertexWeight(0) = 6");
        Sentences.test(heading, "The object remembers the weights and edges before each of the last 14 actions; "
                + "when a fifteenth action happens, the oldest remembered state is forgotten.",
            risingWeights(14) + undos(13, 0) + "vertexWeight(0) = 1; undo() = -3",
            risingWeights(15) + undos(13, 0) + "vertexWeight(0) = 2; undo() = -3; vertexWeight(0) = 2",
            risingWeights(13) + undos(12, 0) + "vertexWeight(0) = 1; undo() = -3",
            risingWeights(40) + undos(13, 0) + "vertexWeight(0) = 27; undo() = -3",
            // The ring goes on where an undo left it.
            risingWeights(14) + undos(13, 10) + "vertexWeight(0) = 11; setVertexWeight(0, 77) = 11; " + undos(10, 0)
                + "vertexWeight(0) = 1; undo() = -3",
            risingWeights(20) + undos(13, 9) + "setVertexWeight(1, 5) = 1; setVertexWeight(1, 6) = 5; undo() = 10; vertexWeight(1) = 5; "
                + undos(9, 0) + "vertexWeight(0) = 7; undo() = -3",
            chain(7) + "cut(3, 4) = 7; setEdgeWeight(0, 1, 9) = 7; setVertexWeight(0, 5) = 1; cut(10, 11) = 7; undo() = 13; "
                + "edgeWeight(10, 11) = 7; undo() = 12; vertexWeight(0) = 1; "
                + "undo() = 11; edgeWeight(0, 1) = 7; undo() = 10; edgeWeight(3, 4) = 7; " + undos(9, 0) + "edgeWeight(0, 1) = 7; "
                + "edgeWeight(1, 2) = -9; undo() = -3");
        Sentences.test(heading, "A call that returns an error changes nothing and is not an action.",
            "link(0, 0, 1) = -3; link(0, 1, 0) = -2; link(0, 12, 1) = -1; cut(0, 1) = -3; setEdgeWeight(0, 1, 5) = -3; "
                + "setVertexWeight(0, 100) = -2; "
                + "setVertexWeight(12, 0) = -1; undo() = -3; vertexWeight(0) = 1; save(0) = 0",
            risingWeights(14) + each("setVertexWeight(0, ?)", -2, 100, -1) + "link(3, 3, 1) = -3; cut(0, 1) = -3; restore(0) = -3; "
                + "restore(2) = -1; load() = -3; undo() = 13; vertexWeight(0) = 14; "
                + undos(12, 0) + "vertexWeight(0) = 1; undo() = -3; vertexWeight(0) = 1");
        Sentences.test(heading, "undo, load and restore are not actions.",
            "setVertexWeight(0, 2) = 1; setVertexWeight(0, 3) = 2; undo() = 1; undo() = 0; undo() = -3; vertexWeight(0) = 1",
            risingWeights(14) + undos(13, 7) + "setVertexWeight(1, 9) = 1; undo() = 7; " + undos(6, 0) + "vertexWeight(0) = 1",
            loaded("F0105") + "undo() = -3; vertexWeight(0) = 5; load() = 0; undo() = -3",
            "save(0) = 0; setVertexWeight(0, 5) = 1; restore(0) = 0; undo() = -3; vertexWeight(0) = 1; "
                + "setVertexWeight(0, 6) = 1; undo() = 0; undo() = -3");
    }

    private static void whatIsNoState() {
        Sentences.test("ACTIONS AND UNDO",
            "The number of vertices, the text, the observations and the save slots are not part of the state.",
            // The number of vertices: 2, before and after an undo and a restore.
            "link(0, 5, 1) = 1; " + loaded("F020101") + "link(0, 1, 5) = 1; save(0) = 1; undo() = 0; treeOf(1) = 1; treeOf(2) = -1; "
                + "restore(0) = 1; treeOf(2) = -1; undo() = -3",
            // The text: what was appended behind an action stays there; what was cleared stays cleared.
            "text(F01) = 3; setVertexWeight(0, 5) = 1; text(07) = 5; undo() = 0; errorPosition() = -9; clearText() = 5",
            "text(F01) = 3; setVertexWeight(0, 5) = 1; clearText() = 3; undo() = 0; clearText() = 0",
            "save(0) = 0; text(F01) = 3; restore(0) = 0; clearText() = 3",
            // The observations.
            links("0-1:5") + "setVertexWeight(0, 5) = 1; observe(0, 1, 7) = 1; undo() = 1; possibleWeights(0, 1) = 1; observe(0, 0, 0) = 2",
            links("0-1:5") + "save(0) = 1; observe(0, 1, 7) = 1; restore(0) = 1; possibleWeights(0, 1) = 1; observe(0, 0, 0) = 2",
            // The save slots: an undo neither empties one nor takes back what it holds, nor does a restore of the other.
            "link(0, 1, 5) = 1; save(0) = 1; undo() = 0; restore(1) = -3; restore(0) = 1; edgeWeight(0, 1) = 5",
            "save(1) = 0; link(0, 1, 5) = 1; save(0) = 1; save(1) = 1; restore(0) = 1; restore(1) = 1; edgeWeight(0, 1) = 5",
            "save(0) = 0; setVertexWeight(0, 5) = 1; save(1) = 0; restore(0) = 0; vertexWeight(0) = 1; restore(1) = 0; "
                + "vertexWeight(0) = 5");
    }

    private static void scriptsAsNumbers() {
        String heading = "SCRIPTS";
        Sentences.test(heading, "A script has 1 to 3 commands.",
            "runScript(1, 30000) = -9; runScript(2, 3000030000) = -9; runScript(3, 300003000030000) = -9",
            each("runScript(?, 0)", -2, 0, 4, -1, LEAST, MOST),
            script("10001", -9) + script("10001 10102", -9) + script("10001 10102 10203", -9) + script("10001 10102 10200", 2));
        Sentences.test(heading,
            "Each command is a group of five decimal digits: one for the command, then two for a vertex u and two for a vertex v; "
            + "the first command is the highest group of the number.",
            // In the other order the second command would be the one that fails.
            script("30001 10001", 0) + script("10001 30001", -9) + script("10001 30001 20001", -9) + script("30001 20001 10001", 0),
            // A number with fewer digits has zeros at its front: its first group is 00000.
            "runScript(2, 30000) = 0; runScript(3, 3000030000) = 0; runScript(1, 3) = 0; runScript(3, 0) = 0",
            links("10-11") + script("31011", -9) + script("31110", -9) + script("30110", 0) + script("31001", 0)
                + script("31111 31010", -9));
        Sentences.test(heading, "The commands run on a copy of the state.",
            script("10001 10102 30002", -9) + "edgeWeight(0, 1) = -9; treeOf(2) = 2; undo() = -3; save(0) = 0; " + script("30002", 0),
            links("0-1:7") + script("20001 30001", 1) + "edgeWeight(0, 1) = 7; undo() = 0; " + script("10001 10001", 1) + "undo() = -3; "
                + "edgeWeight(0, 1) = -9",
            // Each script begins with the state as it is, also behind one that failed.
            script("10001 99999", 1) + script("30001", 0) + script("10001 30001", -9) + script("10001 30001", -9));
        Sentences.test(heading, "Any other group fails.", script("00000", 0) + script("60000", 0) + script("70000", 0)
                + script("80000", 0) + script("90000", 0),
            script("30000 00000", 1) + script("30000 60000", 1) + script("30000 30000 99999", 2),
            "runScript(1, 99999) = 0; runScript(1, 1) = 0; runScript(1, 9999) = 0",
            links("0-1") + script("00001", 0) + script("60001", 0));
        Sentences.test(heading, "The result of a script is the index, from 0, of the first command that fails, or NONE if all succeed.",
            script("30001", 0) + script("30000", -9) + script("30001 30001", 0) + script("30000 30001", 1) + script("30000 30000", -9),
            script("30001 30000 30000", 0) + script("30000 30001 30001", 1) + script("30000 30000 30001", 2)
                + script("30000 30000 30000", -9) + script("30001 30001 30001", 0),
            // What stands behind the one that fails does not matter.
            script("10001 10001 20001", 1) + script("30001 10001 30001", 0));
    }

    private static void scriptCommands() {
        String heading = "SCRIPTS";
        Sentences.test(heading, "1 u v: links u and v by an edge of the weight 1; fails where link(u, v, 1) returns an error.",
            script("10000", 0) + script("11111", 0) + script("10001 10100", 1) + script("10001 10102 10002", 2) + script("10011", -9)
                + script("10012", 0) + script("11200", 0) + script("19999", 0),
            ONE + script("10001", 0) + script("10000", 0), FIVE + script("10004", -9) + script("10005", 0) + script("10500", 0),
            // The weight 1: with 2 at the third edge the centre of 0 - 1 - 2 - 3 would be 2.
            path(1, 0, 1, 2) + script("10203 40001", -9) + script("10203 40002", 1) + script("10302 40301", -9));
        Sentences.test(heading, "2 u v: cuts the edge between u and v; fails where cut(u, v) returns an error.",
            links("0-1:7 1-2:7") + script("20001", -9) + script("20100", -9) + script("20002", 0) + script("20000", 0)
                + script("20003", 0) + script("20001 20001", 1)
                + script("20001 30001", 1) + script("20001 30102", -9) + script("20112", 0) + script("21201", 0) + script("29999", 0),
            FIVE + script("10304 20403 20304", 2) + script("20405", 0) + script("20504", 0));
        Sentences.test(heading, "3 u v: succeeds if u and v are vertices of the same tree (they may be equal).",
            script("30000", -9) + script("31111", -9) + script("30001", 0) + script("31212", 0) + script("30012", 0) + script("31200", 0)
                + script("39999", 0),
            path(1, 0, 1, 2) + script("30002", -9) + script("30200", -9) + script("30203", 0),
            ONE + script("30000", -9) + script("30101", 0), FIVE + script("30404", -9) + script("30505", 0));
        Sentences.test(heading, "4 u v: succeeds if u and v are vertices of the same tree, and v is the centre of this tree.",
            script("40000", -9) + script("41111", -9) + script("40001", 0) + script("40100", 0) + script("41212", 0) + script("40012", 0)
                + script("41200", 0) + script("49999", 0),
            path(1, 4, 6, 5) + script("40406", -9) + script("40606", -9) + script("40604", 0) + script("40405", 0) + script("40006", 0)
                + script("40600", 0),
            links("4-3") + script("40403", -9) + script("40304", 0), FIVE + script("40404", -9) + script("40505", 0));
        Sentences.test(heading,
            "5 u v: succeeds if u and v are vertices of the same tree, and the removal round of u is less than that of v; "
            + "the survivor counts as having a greater removal round than all others.",
            // The rounds on the path 0 to 4 are 1, survivor, 1, 2, 1.
            path(1, 0, 1, 2, 3, 4) + script("50003", -9) + script("50300", 0) + script("50002", 0) + script("50001", -9)
                + script("50301", -9) + script("50100", 0) + script("50103", 0)
                + script("50000", 0) + script("50101", 0) + script("50303", 0),
            path(1, 0, 1, 2, 3, 4) + script("50005", 0) + script("50500", 0) + script("50501", 0) + script("50012", 0)
                + script("51200", 0) + script("51212", 0) + script("59999", 0),
            script("50000", 0) + script("50001", 0), FIVE + script("50404", 0) + script("50505", 0) + script("10304 50403", -9)
                + script("10304 50304", 1));
    }

    private static void errors() {
        String heading = "ERRORS";
        Sentences.plain(heading, "Methods report errors by the negative constants below.");
        Sentences.test(heading,
            "If several errors apply to a call, the one that is listed first in the description of the method is returned.",
            appended(80) + "append(-1) = -2; append(256) = -2; append(0) = -4",
            "link(12, 0, 0) = -1; link(0, -1, 100) = -1; link(0, 0, 0) = -2; link(0, 0, 100) = -2; link(12, 12, 1) = -1; "
                + "link(0, 0, 1) = -3",
            "cut(12, 12) = -1; cut(-1, 0) = -1; cut(0, 12) = -1; cut(0, 0) = -3",
            "setEdgeWeight(12, 0, 0) = -1; setEdgeWeight(0, -1, 100) = -1; setEdgeWeight(12, 12, 5) = -1; setEdgeWeight(0, 1, 0) = -2; "
                + "setEdgeWeight(0, 0, 100) = -2; setEdgeWeight(0, 1, 1) = -3",
            "setVertexWeight(12, 100) = -1; setVertexWeight(-1, -1) = -1; setVertexWeight(0, -1) = -2",
            "pathVertex(12, 0, -1) = -1; pathVertex(0, -1, -1) = -1; pathVertex(0, 1, -1) = -2",
            "diameterEnd(12, 2) = -1; diameterEnd(-1, -1) = -1; diameterEnd(0, 2) = -2",
            "expectedReach(12, 11) = -1; expectedReach(-1, -1) = -1; expectedReach(0, 11) = -2",
            "possibleWeights(12, 12) = -1; possibleWeights(0, -1) = -1; possibleWeights(0, 0) = -3",
            "restore(2) = -1; restore(-1) = -1; restore(0) = -3",
            loaded("F020101") + "link(2, 2, 0) = -1; cut(0, 2) = -1; possibleWeights(2, 0) = -1; expectedReach(2, 11) = -1");
        Sentences.test(heading, "NONE is not an error; it is returned only if no error applies.",
            "pathVertex(0, 1, -1) = -2; pathVertex(0, 1, 0) = -9; pathVertex(0, 0, -1) = -2; pathVertex(0, 12, 5) = -1; "
                + "pathVertex(0, 0, 1) = -9",
            "edgeWeight(0, 12) = -1; edgeWeight(12, 12) = -1; edgeWeight(0, 1) = -9; edgeWeight(0, 0) = -9",
            "distance(0, 12) = -1; distance(12, 0) = -1; distance(0, 1) = -9",
            "meeting(0, 1, 12) = -1; meeting(12, 0, 1) = -1; meeting(0, 12, 1) = -1; meeting(0, 1, 2) = -9",
            "removalRound(12) = -1; removalRound(0) = -9; balancedCut(12) = -1; balancedCut(0) = -9",
            "runScript(0, 30000) = -2; runScript(1, 130000) = -2; runScript(1, 30000) = -9");
        Sentences.test(heading,
            "NO_SUCH_INDEX means that an argument for a vertex is not 0 to n - 1, or that an argument for a slot is not 0 or 1.",
            strange(12), FIVE + strange(5), ONE + strange(1), ONE + strange(-1), lone(11), FIVE + lone(4), ONE + lone(0),
            each("save(?)", -1, -1, 2, LEAST, MOST) + "save(0) = 0; save(1) = 0",
            "save(0) = 0; save(1) = 0; " + each("restore(?)", -1, -1, 2, LEAST, MOST) + "restore(0) = 0; restore(1) = 0");
    }

    private static void constants() {
        String heading = "The constants";
        Sentences.test(heading, "`NO_SUCH_INDEX = -1`: A vertex or a save slot does not exist.", "treeOf(12) = -1; save(2) = -1");
        Sentences.test(heading, "`BAD_VALUE = -2`: Another argument is out of its range.",
            "append(256) = -2; link(0, 1, 100) = -2; runScript(4, 0) = -2");
        Sentences.test(heading, "`NOT_POSSIBLE = -3`: The call is not possible in the present state.",
            "undo() = -3; cut(0, 1) = -3; load() = -3; restore(0) = -3");
        Sentences.test(heading, "`FULL = -4`: No space is left in the text buffer.", appended(80) + "append(70) = -4");
        Sentences.test(heading, "`NONE = -9`: There is no such result.", "edgeWeight(0, 1) = -9; balancedCut(0) = -9; distance(0, 1) = -9");
        due(heading, "NO_SUCH_INDEX", WeightedForest.NO_SUCH_INDEX, -1);
        due(heading, "BAD_VALUE", WeightedForest.BAD_VALUE, -2);
        due(heading, "NOT_POSSIBLE", WeightedForest.NOT_POSSIBLE, -3);
        due(heading, "FULL", WeightedForest.FULL, -4);
        due(heading, "NONE", WeightedForest.NONE, -9);
        Sentences.plain(heading, "The constructor and the methods follow, a promise each: the signature, then what it does.");
    }

    /** The examples are runs as they stand in the document. */
    private static void examples() {
        Matcher example = Pattern.compile("\\d\\. [^:]*: ([^:.]*)\\.").matcher(Sentences.unnamed("Examples"));
        int found = 0;
        while (example.find()) {
            found++;
            run("Examples, " + found, example.group(1));
        }
        due("Examples", "their number", found, 5);
    }

    // ---- parts of runs

    /** Every method that takes a vertex, asked for one that stands alone and has the weight 1. */
    private static String lone(int v) {
        return ("vertexWeight(?) = 1; edgeWeight(?, ?) = -9; treeOf(?) = #; distance(?, ?) = 0; pathVertex(?, ?, 0) = #; "
                + "pathVertex(?, ?, 1) = -9; eccentricity(?) = 0; "
            + "diameter(?) = 0; diameterEnd(?, 0) = #; diameterEnd(?, 1) = #; centre(?) = #; median(?) = #; cost(?) = 0; "
            + "meeting(?, ?, ?) = #; rounds(?) = 0; "
            + "removalRound(?) = -9; survivor(?) = #; balancedCut(?) = -9; expectedReach(?, 0) = 100000000000; "
            + "expectedReach(?, 10) = 100000000000; link(?, ?, 1) = -3; "
            + "cut(?, ?) = -3; setEdgeWeight(?, ?, 1) = -3; possibleWeights(?, ?) = -3; setVertexWeight(?, 2) = 1; vertexWeight(?) = 2; "
            + "undo() = 0; ")
            .replace("?", "" + v).replace("#", "" + v);
    }

    /** Every method that takes a vertex, asked for a number that is none. */
    private static String strange(int v) {
        return ("vertexWeight(?) = -1; edgeWeight(?, 0) = -1; edgeWeight(0, ?) = -1; edgeWeight(?, ?) = -1; treeOf(?) = -1; "
                + "link(?, 0, 1) = -1; link(0, ?, 1) = -1; link(?, ?, 1) = -1; "
            + "cut(?, 0) = -1; cut(0, ?) = -1; cut(?, ?) = -1; setEdgeWeight(?, 0, 1) = -1; setEdgeWeight(0, ?, 1) = -1; "
            + "setVertexWeight(?, 1) = -1; distance(?, 0) = -1; "
            + "distance(0, ?) = -1; distance(?, ?) = -1; pathVertex(?, 0, 0) = -1; pathVertex(0, ?, 0) = -1; pathVertex(?, ?, 0) = -1; "
            + "eccentricity(?) = -1; diameter(?) = -1; "
            + "diameterEnd(?, 0) = -1; diameterEnd(?, 1) = -1; centre(?) = -1; median(?) = -1; cost(?) = -1; meeting(?, 0, 0) = -1; "
            + "meeting(0, ?, 0) = -1; meeting(0, 0, ?) = -1; "
            + "meeting(?, ?, ?) = -1; rounds(?) = -1; removalRound(?) = -1; survivor(?) = -1; balancedCut(?) = -1; "
            + "expectedReach(?, 0) = -1; expectedReach(?, 10) = -1; "
            + "possibleWeights(?, 0) = -1; possibleWeights(0, ?) = -1; undo() = -3; ").replace("?", "" + v);
    }

    private static String noEdges() {
        StringBuilder run = new StringBuilder();
        for (int u = 0; u < 12; u++) {
            for (int v = 0; v < 12; v++) {
                run.append("edgeWeight(").append(u).append(", ").append(v).append(") = -9; ");
            }
        }
        return run.toString();
    }

    private static String weights(int w) {
        StringBuilder run = new StringBuilder();
        for (int v = 0; v < 12; v++) {
            run.append("setVertexWeight(").append(v).append(", ").append(w).append(") = 1; ");
        }
        return run.toString();
    }

    /** A text with its error position; one that is no setup can't be loaded, and leaves the new forest as it is. */
    private static String text(String signs, int position) {
        String written = signs.isEmpty() ? "" : "text(" + signs + ") = " + signs.length() + "; ";
        return written + "errorPosition() = " + position + (position == -9 ? "" : "; load() = -3; treeOf(11) = 11; clearText() = "
                + signs.length());
    }

    /** Everything that a setup begins with; the parts that are setups themselves have no error position. */
    private static String prefixes(String setup) {
        int weights = 3 + 2 * Integer.parseInt(setup.substring(1, 3));
        StringBuilder run = new StringBuilder("errorPosition() = 0; load() = -3; ");
        for (int length = 1; length <= setup.length(); length++) {
            boolean whole = length >= weights && (length - weights) % 4 == 0;
            run.append("append(").append((int) setup.charAt(length - 1)).append(") = ").append(length).append("; errorPosition() = ")
                .append(whole ? -9 : length).append("; load() = ").append(whole ? (length - weights) / 4 : -3).append("; ");
        }
        return run.toString();
    }
}
