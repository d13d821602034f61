import java.util.ArrayDeque;
import java.util.Arrays;
import java.util.List;

/**
 * The promises of ../shared/DOC.md, one by one: each part of a promise that names a boundary (a range, an error, an
 * empty or full store, an answer that there is no result) has runs of calls of its own, which go wrong if it is broken.
 */
public final class BoundaryTests extends Calls {
    private static final int LEAST = Integer.MIN_VALUE;
    private static final int MOST = Integer.MAX_VALUE;

    /** The longest setups: 12 vertices on a path of 11 edges, 71 characters. */
    private static final String LONGEST = "F12" + "01".repeat(12) + "ab01bc01cd01de01ef01fg01gh01hi01ij01jk01kl01";
    private static final String HEAVIEST = "F12" + "99".repeat(12) + "ab99bc99cd99de99ef99fg99gh99hi99ij99jk99kl99";

    private static final String NO_SUCH_INDEX = "NO_SUCH_INDEX";

    /** Three vertices on a path, and the same on the first of twelve. */
    private static final String THREE = loaded("F03010101ab05bc07");
    private static final String TWELVE = links("0-1:5 1-2:7");

    public static void main(String[] args) {
        newObject();
        append();
        clearText();
        errorPosition();
        load();
        vertexWeight();
        edgeWeight();
        treeOf();
        link();
        cut();
        setEdgeWeight();
        setVertexWeight();
        undo();
        distance();
        pathVertex();
        eccentricityAndDiameter();
        diameterEnd();
        centreMedianAndCost();
        meeting();
        contraction();
        balancedCut();
        expectedReach();
        observe();
        possibleWeights();
        runScript();
        randomChanges();
        save();
        restore();
        Sentences.checkAllNamed(heading -> heading.startsWith("Promise"));
        finish();
    }

    private static void newObject() {
        StringBuilder alone = new StringBuilder();
        for (int v = 0; v < 12; v++) {
            alone.append("treeOf(").append(v).append(") = ").append(v).append("; removalRound(").append(v).append(") = -9; "
                    + "balancedCut(").append(v).append(") = -9; ");
        }
        Sentences.test("Promise 1", "Creates a forest of 12 vertices without edges.",
            alone + "treeOf(12) = -1; treeOf(-1) = -1; save(0) = 0",
            // All else is empty.
            "clearText() = 0; errorPosition() = 0; load() = -3; undo() = -3; restore(0) = -3; restore(1) = -3; observe(0, 0, 0) = 1",
            "link(0, 1, 5) = 1; possibleWeights(0, 1) = 99", "link(11, 0, 1) = 1; link(12, 0, 1) = -1");
    }

    private static void append() {
        String promise = "Promise 2";
        Sentences.plain(promise, "Appends a character to the text buffer.");
        Sentences.test(promise, "`c`: character code, 0 to 255",
            "append(0) = 1; append(255) = 2; append(1) = 3; append(254) = 4; append(127) = 5; append(128) = 6; clearText() = 6");
        Sentences.test(promise, "Returns the new length of the text;", appended(80),
            "append(70) = 1; clearText() = 1; append(70) = 1; append(-1) = -2; append(70) = 2");
        Sentences.test(promise, "BAD_VALUE if c is out of range;", each("append(?)", -2, -1, 256, LEAST, MOST) + "clearText() = 0",
            // 70 modulo 256 and modulo 65536: no code is wrapped into the range.
            each("append(?)", -2, 326, -186, 65606) + "clearText() = 0; errorPosition() = 0");
        Sentences.test(promise, "FULL if the text already has 80 characters.",
            appended(79) + "append(120) = 80; append(120) = -4; append(0) = -4; append(255) = -4; clearText() = 80",
            appended(80) + "append(70) = -4; clearText() = 80; append(70) = 1; errorPosition() = 1");
    }

    private static void clearText() {
        String promise = "Promise 3";
        Sentences.test(promise, "Empties the text buffer.", "append(120) = 1; clearText() = 1; errorPosition() = 0; text(F0109) = 5; "
                + "errorPosition() = -9; load() = 0; vertexWeight(0) = 9",
            "text(F0109) = 5; clearText() = 5; load() = -3; errorPosition() = 0; append(70) = 1; errorPosition() = 1",
            appended(80) + "clearText() = 80; errorPosition() = 0; append(70) = 1");
        Sentences.test(promise, "Returns the previous length of the text.", "clearText() = 0; clearText() = 0",
            "append(120) = 1; clearText() = 1; clearText() = 0",
            appended(80) + "append(120) = -4; append(-1) = -2; clearText() = 80; clearText() = 0");
    }

    private static void errorPosition() {
        String promise = "Promise 4";
        Sentences.plain(promise, "Checks the text.");
        Sentences.test(promise, "Returns the error position of the text, or NONE if the text is a complete setup.",
            "errorPosition() = 0", "text(F0100) = 5; errorPosition() = -9; append(97) = 6; errorPosition() = 6; append(97) = 7; "
                + "errorPosition() = 6",
            "text(F010) = 4; errorPosition() = 4; append(48) = 5; errorPosition() = -9; append(48) = 6; errorPosition() = 5",
            "text(" + LONGEST + ") = 71; errorPosition() = -9; text(aaaaaaaaa) = 80; errorPosition() = 72",
            appended(80) + "errorPosition() = 0",
            // It only checks: the forest stays as it is, also where the text is complete.
            "link(0, 1, 5) = 1; text(F020707) = 7; errorPosition() = -9; vertexWeight(0) = 1; edgeWeight(0, 1) = 5; treeOf(11) = 11; "
                + "undo() = 0; clearText() = 7");
    }

    private static void load() {
        String promise = "Promise 5";
        Sentences.test(promise, "Replaces the forest by the one in the text.", loaded("F0109") + "vertexWeight(0) = 9; treeOf(1) = -1",
            "link(0, 1, 5) = 1; link(1, 2, 5) = 2; " + loaded("F03070809ac06") + "edgeWeight(0, 1) = -9; edgeWeight(1, 2) = -9; "
                + "edgeWeight(0, 2) = 6; vertexWeight(2) = 9; treeOf(3) = -1",
            loaded("F0109") + "clearText() = 5; " + loaded("F12000000000000000000000099al99") + "treeOf(11) = 0; vertexWeight(11) = 99; "
                + "vertexWeight(10) = 0; edgeWeight(0, 11) = 99; treeOf(12) = -1",
            // Nothing is left of an earlier text, a script or random changes.
            THREE + "clearText() = 17; " + loaded("F03010101") + "edgeWeight(0, 1) = -9; edgeWeight(1, 2) = -9; treeOf(2) = 2; "
                + "link(0, 2, 1) = 1",
            script("10001 10102 10203", -9) + loaded("F0401010101") + "treeOf(1) = 1; treeOf(2) = 2; treeOf(3) = 3; save(0) = 0",
            "randomChanges(5, 60) = " + changes(12, 5, 60) + "; " + loaded("F12" + "01".repeat(12)) + "save(0) = 0; treeOf(11) = 11");
        Sentences.test(promise, "Forgets all remembered states and empties both save slots.",
            "setVertexWeight(0, 5) = 1; " + loaded("F0109") + "undo() = -3; vertexWeight(0) = 9",
            risingWeights(20) + loaded("F0109") + "undo() = -3; setVertexWeight(0, 3) = 9; undo() = 0; undo() = -3; vertexWeight(0) = 9",
            "save(0) = 0; " + loaded("F0109") + "restore(0) = -3; restore(1) = -3",
            "save(1) = 0; " + loaded("F0109") + "restore(0) = -3; restore(1) = -3",
            "save(0) = 0; save(1) = 0; " + loaded("F0109") + "restore(0) = -3; restore(1) = -3; vertexWeight(0) = 9; save(1) = 0; "
                + "restore(1) = 0; restore(0) = -3");
        Sentences.test(promise, "Keeps the text and the observations.",
            "text(F0109) = 5; load() = 0; errorPosition() = -9; load() = 0; append(48) = 6; errorPosition() = 5; clearText() = 6",
            "observe(0, 1, 7) = 1; " + loaded("F020101ab05") + "possibleWeights(0, 1) = 1; observe(0, 0, 0) = 2; load() = 1; "
                + "observe(0, 0, 0) = 3; possibleWeights(0, 1) = 1",
            // Six of them stay, the oldest the first to go.
            "observe(0, 0, 1) = 1; observe(0, 0, 0) = 2; observe(0, 0, 0) = 3; observe(0, 0, 0) = 4; observe(0, 0, 0) = 5; "
                + "observe(0, 0, 0) = 6; " + loaded("F020101ab05")
                + "possibleWeights(0, 1) = 0; observe(0, 0, 0) = 6; possibleWeights(0, 1) = 99");
        Sentences.test(promise, "Returns the number of edges;", loaded("F0109"), loaded("F020101"), loaded("F020101ab05"),
            loaded("F12" + "01".repeat(12)),
            loaded(LONGEST) + "save(0) = 11; load() = 11", "link(0, 1, 5) = 1; " + loaded("F0109") + "save(0) = 0");
        Sentences.test(promise, "NOT_POSSIBLE if the text is not a complete setup.", "load() = -3; treeOf(11) = 11",
            "text(F010) = 4; load() = -3; append(48) = 5; load() = 0; append(48) = 6; load() = -3",
            "link(0, 1, 5) = 1; save(1) = 1; observe(0, 1, 6) = 1; text(F0202020) = 8; load() = -3; edgeWeight(0, 1) = 5; "
                + "vertexWeight(0) = 1; treeOf(11) = 11; possibleWeights(0, 1) = 1; "
                + "clearText() = 8; undo() = 0; restore(0) = -3; restore(1) = 1; edgeWeight(0, 1) = 5",
            "text(F020202ab00) = 11; load() = -3; vertexWeight(0) = 1", "text(F020202aa01) = 11; load() = -3; vertexWeight(0) = 1",
            "text(F030202) = 7; load() = -3; vertexWeight(0) = 1",
            "text(F020202ab05ab05) = 15; load() = -3; vertexWeight(0) = 1; edgeWeight(0, 1) = -9", appended(80) + "load() = -3");
    }

    private static void vertexWeight() {
        Sentences.test("Promise 6", "Returns the weight of the vertex;",
            loaded("F12009901000000000000009800") + "vertexWeight(0) = 0; vertexWeight(1) = 99; vertexWeight(2) = 1; "
                + "vertexWeight(10) = 98; vertexWeight(11) = 0");
        Sentences.test("Promise 6", NO_SUCH_INDEX, strangers("vertexWeight(?)", 12), THREE + strangers("vertexWeight(?)", 3),
            loaded("F0101") + strangers("vertexWeight(?)", 1));
    }

    private static void edgeWeight() {
        String promise = "Promise 7";
        Sentences.test(promise, "Returns the weight of the edge between u and v;",
            links("0-11:1 11-10:99") + "edgeWeight(0, 11) = 1; edgeWeight(11, 0) = 1; edgeWeight(10, 11) = 99; edgeWeight(11, 10) = 99");
        Sentences.test(promise, NO_SUCH_INDEX, inAll("edgeWeight(?, 1)"), inAll("edgeWeight(1, ?)"), inAll("edgeWeight(?, ?)"));
        Sentences.test(promise, "NONE if there is no such edge.", each("edgeWeight(?, ?)", -9, 0, 5, 11),
            "edgeWeight(0, 11) = -9; link(0, 11, 5) = 1; edgeWeight(0, 11) = 5; cut(0, 11) = 5; edgeWeight(0, 11) = -9",
            TWELVE + "edgeWeight(0, 2) = -9; edgeWeight(2, 0) = -9; edgeWeight(0, 0) = -9; edgeWeight(2, 3) = -9");
    }

    private static void treeOf() {
        Sentences.test("Promise 8", "Returns the smallest vertex of the tree of v;", "treeOf(0) = 0; treeOf(11) = 11",
            links("11-10 10-3 3-7") + each("treeOf(?)", 3, 3, 7, 10, 11) + "treeOf(0) = 0; treeOf(4) = 4",
            chain(1) + each("treeOf(?)", 0, 0, 5, 11) + "cut(10, 11) = 1; treeOf(11) = 11; treeOf(10) = 0");
        Sentences.test("Promise 8", NO_SUCH_INDEX, inAll("treeOf(?)"));
    }

    private static void link() {
        String promise = "Promise 9";
        Sentences.plain(promise, "Adds an edge.");
        Sentences.test(promise, "`w`: weight, 1 to 99", "link(0, 1, 1) = 1; edgeWeight(0, 1) = 1; link(1, 2, 99) = 2; "
                + "edgeWeight(1, 2) = 99; link(2, 3, 2) = 3; link(3, 4, 98) = 4");
        Sentences.test(promise, "Returns the number of edges then;", chain(1) + "cut(0, 1) = 1; link(0, 11, 1) = 11",
            "link(0, 1, 1) = 1; undo() = 0; link(0, 1, 1) = 1; link(0, 1, 0) = -2; link(5, 6, 1) = 2");
        Sentences.test(promise, NO_SUCH_INDEX, inAll("link(?, 1, 5)"), inAll("link(1, ?, 5)"), inAll("link(?, ?, 5)"));
        Sentences.test(promise, "BAD_VALUE if w is out of range;",
            each("link(0, 1, ?)", -2, 0, 100, -1, LEAST, MOST) + "edgeWeight(0, 1) = -9; undo() = -3", each("link(0, 1, ?)", -2, 257, 355));
        Sentences.test(promise, "NOT_POSSIBLE if u and v are in the same tree (also if they are equal).",
            each("link(?, ?, 5)", -3, 0, 5, 11) + "undo() = -3",
            TWELVE + "link(0, 1, 9) = -3; link(1, 0, 9) = -3; link(0, 2, 9) = -3; link(2, 0, 9) = -3; "
            + "edgeWeight(0, 1) = 5; edgeWeight(0, 2) = -9; undo() = 1; link(0, 2, 9) = 2",
        chain(1) + "link(0, 11, 1) = -3; link(11, 11, 1) = -3");
    }

    private static void cut() {
        String promise = "Promise 10";
        Sentences.plain(promise, "Removes an edge.");
        Sentences.test(promise, "Returns the weight that the edge had;",
            links("0-11:1 11-10:99") + "cut(11, 0) = 1; cut(11, 10) = 99; edgeWeight(0, 11) = -9; edgeWeight(10, 11) = -9; save(0) = 0",
            links("0-1:5") + "setEdgeWeight(0, 1, 6) = 5; cut(0, 1) = 6");
        Sentences.test(promise, NO_SUCH_INDEX, inAll("cut(?, 1)"), inAll("cut(1, ?)"), inAll("cut(?, ?)"));
        Sentences.test(promise, "NOT_POSSIBLE if there is no edge between u and v.",
            each("cut(?, ?)", -3, 0, 5, 11) + "cut(0, 1) = -3; undo() = -3",
            TWELVE + "cut(0, 2) = -3; cut(2, 0) = -3; cut(1, 1) = -3; cut(0, 3) = -3; "
            + "distance(0, 2) = 12; cut(0, 1) = 5; cut(0, 1) = -3; cut(1, 0) = -3; undo() = 2");
    }

    private static void setEdgeWeight() {
        String promise = "Promise 11";
        Sentences.plain(promise, "Changes the weight of an edge.");
        Sentences.test(promise, "`w`: new weight, 1 to 99", TWELVE + "setEdgeWeight(0, 1, 1) = 5; edgeWeight(0, 1) = 1; "
                + "setEdgeWeight(1, 0, 99) = 1; edgeWeight(0, 1) = 99; edgeWeight(1, 2) = 7");
        Sentences.test(promise, "Returns the previous weight;",
            TWELVE + "setEdgeWeight(0, 1, 99) = 5; setEdgeWeight(0, 1, 99) = 99; setEdgeWeight(0, 1, 1) = 99; "
                + "setEdgeWeight(0, 1, 100) = -2; setEdgeWeight(1, 0, 3) = 1; edgeWeight(0, 1) = 3");
        Sentences.test(promise, NO_SUCH_INDEX, inAll("setEdgeWeight(?, 1, 5)"), inAll("setEdgeWeight(1, ?, 5)"),
            inAll("setEdgeWeight(?, ?, 5)"));
        Sentences.test(promise, "BAD_VALUE if w is out of range;",
            TWELVE + each("setEdgeWeight(0, 1, ?)", -2, 0, 100, -1, LEAST, MOST) + "edgeWeight(0, 1) = 5; undo() = 1",
            TWELVE + each("setEdgeWeight(0, 1, ?)", -2, 257, 355));
        Sentences.test(promise, "NOT_POSSIBLE if there is no edge between u and v.",
            each("setEdgeWeight(?, ?, 5)", -3, 0, 5, 11) + "setEdgeWeight(0, 1, 5) = -3; edgeWeight(0, 1) = -9; undo() = -3",
            TWELVE + "setEdgeWeight(0, 2, 5) = -3; setEdgeWeight(2, 0, 5) = -3; edgeWeight(0, 2) = -9; cut(0, 1) = 5; "
                + "setEdgeWeight(0, 1, 5) = -3; edgeWeight(0, 1) = -9; undo() = 2");
    }

    private static void setVertexWeight() {
        String promise = "Promise 12";
        Sentences.plain(promise, "Changes the weight of a vertex.");
        Sentences.test(promise, "`w`: new weight, 0 to 99", "setVertexWeight(0, 0) = 1; vertexWeight(0) = 0; setVertexWeight(0, 99) = 0; "
                + "vertexWeight(0) = 99; setVertexWeight(11, 99) = 1; vertexWeight(11) = 99; vertexWeight(10) = 1");
        Sentences.test(promise, "Returns the previous weight;",
            "setVertexWeight(0, 99) = 1; setVertexWeight(0, 99) = 99; setVertexWeight(0, 0) = 99; setVertexWeight(0, 100) = -2; "
                + "setVertexWeight(0, 1) = 0");
        Sentences.test(promise, NO_SUCH_INDEX, inAll("setVertexWeight(?, 5)"));
        Sentences.test(promise, "BAD_VALUE if w is out of range.",
            each("setVertexWeight(0, ?)", -2, -1, 100, LEAST, MOST) + "vertexWeight(0) = 1; undo() = -3",
            each("setVertexWeight(0, ?)", -2, 256, 355));
    }

    private static void undo() {
        String promise = "Promise 13";
        Sentences.test(promise, "Takes back the last action that is remembered.",
            TWELVE + "setEdgeWeight(0, 1, 9) = 5; setVertexWeight(0, 8) = 1; cut(1, 2) = 7; undo() = 4; edgeWeight(1, 2) = 7; "
                + "vertexWeight(0) = 8; undo() = 3; "
            + "vertexWeight(0) = 1; edgeWeight(0, 1) = 9; undo() = 2; edgeWeight(0, 1) = 5; undo() = 1; edgeWeight(1, 2) = -9; "
            + "undo() = 0; edgeWeight(0, 1) = -9",
            risingWeights(3) + "undo() = 2; setVertexWeight(0, 50) = 3; undo() = 2; vertexWeight(0) = 3; undo() = 1; "
                + "vertexWeight(0) = 2; undo() = 0; vertexWeight(0) = 1");
        Sentences.test(promise, "Returns how many states are still remembered;", risingWeights(1) + undos(0, 0),
            risingWeights(14) + undos(13, 0), risingWeights(15) + undos(13, 0) + "vertexWeight(0) = 2",
            risingWeights(99 - 1) + undos(13, 0));
        Sentences.test(promise, "NOT_POSSIBLE if none is remembered.", "undo() = -3; undo() = -3; vertexWeight(0) = 1",
            risingWeights(14) + undos(13, 0) + "undo() = -3; undo() = -3; vertexWeight(0) = 1",
            risingWeights(15) + undos(13, 0) + "undo() = -3; vertexWeight(0) = 2; setVertexWeight(0, 9) = 2; undo() = 0; undo() = -3",
            risingWeights(3) + loaded("F0107") + "undo() = -3; vertexWeight(0) = 7",
            risingWeights(3) + "save(0) = 0; restore(0) = 0; undo() = -3; vertexWeight(0) = 4");
    }

    private static void distance() {
        String promise = "Promise 14";
        Sentences.test(promise, "Returns the distance;", each("distance(?, ?)", 0, 0, 5, 11),
            chain(99) + "distance(0, 11) = 1089; distance(11, 0) = 1089; distance(4, 4) = 0; distance(10, 11) = 99",
            links("0-1") + "distance(0, 1) = 1");
        Sentences.test(promise, NO_SUCH_INDEX, inAll("distance(?, 1)"), inAll("distance(1, ?)"), inAll("distance(?, ?)"));
        Sentences.test(promise, "NONE if u and v are in different trees.", "distance(0, 1) = -9; distance(11, 0) = -9",
            TWELVE + "distance(2, 3) = -9; distance(3, 0) = -9; cut(1, 2) = 7; distance(0, 2) = -9; distance(0, 1) = 5");
    }

    private static void pathVertex() {
        String promise = "Promise 15";
        Sentences.test(promise, "`i`: index on the path from u to v; u has the index 0",
            TWELVE + "pathVertex(0, 2, 0) = 0; pathVertex(2, 0, 0) = 2; pathVertex(1, 1, 0) = 1; pathVertex(0, 2, 2) = 2; "
                + "pathVertex(2, 0, 2) = 0");
        Sentences.test(promise, "Returns the vertex with this index;", each("pathVertex(?, ?, 0)", 5, 5),
            chain(1) + "pathVertex(0, 11, 11) = 11; pathVertex(11, 0, 11) = 0; pathVertex(11, 0, 1) = 10; pathVertex(0, 11, 10) = 10",
            links("5-0 5-11 5-3") + "pathVertex(0, 11, 1) = 5; pathVertex(3, 0, 1) = 5; pathVertex(3, 0, 2) = 0; "
                + "pathVertex(5, 11, 1) = 11");
        Sentences.test(promise, NO_SUCH_INDEX, inAll("pathVertex(?, 1, 0)"), inAll("pathVertex(1, ?, 0)"), inAll("pathVertex(?, ?, 0)"));
        Sentences.test(promise, "BAD_VALUE if i is negative;", each("pathVertex(0, 0, ?)", -2, -1, -2, LEAST),
            TWELVE + each("pathVertex(0, 2, ?)", -2, -1, LEAST) + each("pathVertex(0, 5, ?)", -2, -1, LEAST));
        Sentences.test(promise, "NONE if u and v are in different trees or the path has no such index.",
            "pathVertex(0, 1, 0) = -9; pathVertex(0, 1, 1) = -9", each("pathVertex(0, 0, ?)", -9, 1, 2, 11, 12, MOST),
            TWELVE + each("pathVertex(0, 2, ?)", -9, 3, 4, 11, 12, MOST) + each("pathVertex(2, 1, ?)", -9, 2, 3)
                + each("pathVertex(0, 3, ?)", -9, 0, 1, 2), chain(1) + each("pathVertex(0, 11, ?)", -9, 12, 13, MOST));
    }

    private static void eccentricityAndDiameter() {
        Sentences.test("Promise 16", "Returns the eccentricity of v;", each("eccentricity(?)", 0, 0, 5, 11),
            TWELVE + "eccentricity(0) = 12; eccentricity(1) = 7; eccentricity(2) = 12; eccentricity(3) = 0",
            chain(99) + "eccentricity(0) = 1089; eccentricity(11) = 1089");
        Sentences.test("Promise 16", NO_SUCH_INDEX, inAll("eccentricity(?)"));
        Sentences.test("Promise 17", "Returns the diameter of the tree of v;", each("diameter(?)", 0, 0, 5, 11),
            TWELVE + "diameter(0) = 12; diameter(1) = 12; diameter(2) = 12; diameter(3) = 0",
            chain(99) + "diameter(0) = 1089; diameter(6) = 1089; diameter(11) = 1089");
        Sentences.test("Promise 17", NO_SUCH_INDEX, inAll("diameter(?)"));
    }

    private static void diameterEnd() {
        String promise = "Promise 18";
        Sentences.plain(promise, "Finds the ends of a longest path.");
        String star = links("5-9:2 5-7:2 5-2:2 5-4:2");
        String fork = links("1-3:1 2-3:1 3-6:5 3-7:5");
        Sentences.test(promise,
            "Among all pairs (a, b) of vertices of the tree of v, with a not greater than b, whose distance is the diameter, the pair "
                + "with the smallest a is taken, and among these the one with the smallest b.",
            "diameterEnd(0, 0) = 0; diameterEnd(0, 1) = 0; diameterEnd(11, 0) = 11; diameterEnd(11, 1) = 11",
            links("11-0:3") + "diameterEnd(11, 0) = 0; diameterEnd(11, 1) = 11; diameterEnd(0, 0) = 0; diameterEnd(0, 1) = 11",
            star + each("diameterEnd(?, 0)", 2, 2, 4, 5, 7, 9) + each("diameterEnd(?, 1)", 4, 2, 4, 5, 7, 9),
            fork + "diameterEnd(1, 0) = 6; diameterEnd(1, 1) = 7; cut(3, 6) = 5; diameterEnd(1, 0) = 1; diameterEnd(1, 1) = 7");
        Sentences.test(promise, "`which`: 0 for a, 1 for b", TWELVE + "diameterEnd(1, 0) = 0; diameterEnd(1, 1) = 2");
        Sentences.test(promise, "Returns the vertex;", TWELVE + "diameterEnd(0, 0) = 0; diameterEnd(0, 1) = 2; diameterEnd(2, 0) = 0; "
                + "diameterEnd(2, 1) = 2", chain(1) + "diameterEnd(5, 0) = 0; diameterEnd(5, 1) = 11");
        Sentences.test(promise, NO_SUCH_INDEX, inAll("diameterEnd(?, 0)"), inAll("diameterEnd(?, 1)"));
        Sentences.test(promise, "BAD_VALUE if which is not 0 or 1.", each("diameterEnd(0, ?)", -2, -1, 2, LEAST, MOST),
            TWELVE + each("diameterEnd(0, ?)", -2, -1, 2));
    }

    private static void centreMedianAndCost() {
        Sentences.test("Promise 19", "Returns the centre of the tree of v;", "centre(0) = 0; centre(11) = 11",
            links("11-0:3") + "centre(11) = 0; centre(0) = 0", path(1, 5, 9, 8, 4) + each("centre(?)", 8, 4, 5, 8, 9),
            chain(99) + each("centre(?)", 5, 0, 5, 6, 11) + "cut(0, 1) = 99; centre(11) = 6; centre(0) = 0");
        Sentences.test("Promise 19", NO_SUCH_INDEX, inAll("centre(?)"));
        Sentences.test("Promise 20", "Returns the median of the tree of v;", "median(0) = 0; median(11) = 11",
            links("11-0:3") + "median(11) = 0; setVertexWeight(11, 2) = 1; median(0) = 11; setVertexWeight(0, 2) = 1; median(11) = 0",
            path(1, 5, 9, 8, 4) + each("median(?)", 8, 4, 5, 8, 9) + each("setVertexWeight(?, 0)", 1, 4, 5, 8, 9)
                + each("median(?)", 4, 4, 5, 8, 9));
        Sentences.test("Promise 20", NO_SUCH_INDEX, inAll("median(?)"));
        Sentences.test("Promise 21", "Returns the cost of v;", each("cost(?)", 0, 0, 5, 11),
            TWELVE + "setVertexWeight(0, 0) = 1; setVertexWeight(2, 99) = 1; cost(2) = 7; cost(0) = 1193; cost(1) = 693; cost(3) = 0",
            loaded(HEAVIEST) + "cost(0) = 646866; cost(11) = 646866; cost(5) = 352836");
        Sentences.test("Promise 21", NO_SUCH_INDEX, inAll("cost(?)"));
    }

    private static void meeting() {
        String promise = "Promise 22";
        Sentences.test(promise,
            "Returns the meeting vertex of u, v and w (if u is the root, this is the lowest common ancestor of v and w);",
            each("meeting(?, ?, ?)", 5, 5), TWELVE + "meeting(0, 1, 2) = 1; meeting(0, 0, 2) = 0; meeting(2, 0, 2) = 2; "
                + "meeting(0, 2, 2) = 2",
            // With the root 0: 3 and 4 below 1, 5 below 2, 1 and 2 below 0.
            links("0-1 0-2 1-3 1-4 2-5") + "meeting(0, 3, 4) = 1; meeting(0, 3, 5) = 0; meeting(0, 1, 4) = 1; meeting(0, 0, 5) = 0; "
                + "meeting(5, 3, 4) = 1; meeting(3, 4, 5) = 1; meeting(4, 5, 2) = 2");
        Sentences.test(promise, NO_SUCH_INDEX, inAll("meeting(?, 1, 1)"), inAll("meeting(1, ?, 1)"), inAll("meeting(1, 1, ?)"),
            inAll("meeting(?, ?, ?)"), inAll("meeting(0, 2, ?)"));
        Sentences.test(promise, "NONE if they are not all in the same tree.",
            "meeting(0, 1, 2) = -9; meeting(0, 0, 1) = -9; meeting(0, 1, 0) = -9; meeting(1, 0, 0) = -9",
            TWELVE + "meeting(0, 1, 3) = -9; meeting(0, 3, 1) = -9; meeting(3, 0, 1) = -9; meeting(3, 3, 0) = -9");
    }

    private static void contraction() {
        Sentences.test("Promise 23", "Returns the number of rounds of the contraction of the tree of v, 0 if the tree is one vertex;",
            each("rounds(?)", 0, 0, 5, 11), links("11-0") + "rounds(11) = 1; rounds(0) = 1; rounds(5) = 0",
            chain(1) + each("rounds(?)", 3, 0, 5, 11),
            links("4-0 4-1 4-2") + each("rounds(?)", 1, 4, 0, 2) + "rounds(3) = 0", loaded("F0101") + "rounds(0) = 0");
        Sentences.test("Promise 23", NO_SUCH_INDEX, inAll("rounds(?)"));
        Sentences.test("Promise 24", "Returns the removal round of v;", links("11-0") + "removalRound(11) = 1",
            chain(1) + each("removalRound(?)", 1, 0, 11, 2) + each("removalRound(?)", 2, 1, 5, 10) + each("removalRound(?)", 3, 3, 9));
        Sentences.test("Promise 24", NO_SUCH_INDEX, inAll("removalRound(?)"));
        Sentences.test("Promise 24", "NONE if v is the survivor.", each("removalRound(?)", -9, 0, 5, 11),
            links("11-0") + "removalRound(0) = -9; removalRound(5) = -9", TWELVE + "removalRound(1) = -9; removalRound(0) = 1",
            chain(1) + "removalRound(7) = -9");
        Sentences.test("Promise 25", "Returns the survivor of the tree of v;", "survivor(0) = 0; survivor(5) = 5; survivor(11) = 11",
            links("11-0") + "survivor(11) = 0; survivor(0) = 0; survivor(5) = 5", TWELVE + each("survivor(?)", 1, 0, 1, 2),
            chain(1) + each("survivor(?)", 7, 0, 7, 11));
        Sentences.test("Promise 25", NO_SUCH_INDEX, inAll("survivor(?)"));
    }

    private static void balancedCut() {
        String promise = "Promise 26";
        Sentences.test(promise, "Returns the code of the balanced cut of the tree of v;",
            links("1-0") + "balancedCut(0) = 1; balancedCut(1) = 1", links("11-10") + "balancedCut(10) = 1011; balancedCut(11) = 1011",
            TWELVE + "balancedCut(0) = 1; setVertexWeight(2, 0) = 1; balancedCut(0) = 1; setVertexWeight(2, 2) = 0; "
            + "balancedCut(0) = 102", chain(1) + each("balancedCut(?)", 506, 0, 5, 11));
        Sentences.test(promise, NO_SUCH_INDEX, inAll("balancedCut(?)"));
        Sentences.test(promise, "NONE if the tree has no edges.", each("balancedCut(?)", -9, 0, 5, 11),
            TWELVE + "balancedCut(3) = -9; cut(1, 2) = 7; balancedCut(2) = -9; balancedCut(1) = 1; cut(0, 1) = 5; balancedCut(1) = -9",
            loaded("F0101") + "balancedCut(0) = -9");
    }

    private static void expectedReach() {
        String promise = "Promise 27";
        Sentences.test(promise, "`x`: tenths, 0 to 10", TWELVE + "expectedReach(0, 0) = 300000000000; "
                + "expectedReach(0, 10) = 100000000000; expectedReach(0, 1) = 271000000000; expectedReach(0, 9) = 111000000000");
        Sentences.test(promise, "Returns 10 to the power of 11 times the expected reach of v;",
            "expectedReach(0, 0) = 100000000000; expectedReach(11, 10) = 100000000000; setVertexWeight(0, 0) = 1; "
                + "expectedReach(0, 0) = 0; setVertexWeight(0, 99) = 0; expectedReach(0, 5) = 9900000000000",
            loaded(HEAVIEST) + "expectedReach(0, 0) = 118800000000000; expectedReach(11, 9) = 10999999999989",
            chain(1) + "expectedReach(0, 9) = 111111111111");
        Sentences.test(promise, NO_SUCH_INDEX, inAll("expectedReach(?, 0)"), inAll("expectedReach(?, 10)"));
        Sentences.test(promise, "BAD_VALUE if x is out of range.", each("expectedReach(0, ?)", -2, -1, 11, LEAST, MOST),
            TWELVE + each("expectedReach(1, ?)", -2, -1, 11));
    }

    private static void observe() {
        String promise = "Promise 28";
        Sentences.plain(promise, "Stores an observation.");
        // The range is that of the numbers, not of the vertices that there are.
        Sentences.test(promise, "`u`: 0 to 11", "observe(0, 5, 0) = 1; observe(11, 5, 0) = 2", loaded("F0101") + "observe(11, 0, 0) = 1; "
            + "observe(1, 0, 0) = 2");
        Sentences.test(promise, "`v`: 0 to 11", "observe(5, 0, 0) = 1; observe(5, 11, 0) = 2",
            loaded("F0101") + "observe(0, 11, 0) = 1; observe(0, 1, 0) = 2");
        Sentences.test(promise, "`d`: 0 to 999", "observe(0, 0, 0) = 1; observe(0, 1, 999) = 2; observe(0, 1, 998) = 3",
            loaded("F12" + "01".repeat(12) + "ab90bc90cd90de90ef90fg90gh90hi90ij90jk90kl90") + "observe(0, 11, 999) = 1; "
                + "possibleWeights(0, 1) = 1; setEdgeWeight(0, 1, 99) = 90; possibleWeights(0, 1) = 1; possibleWeights(1, 2) = 1");
        Sentences.test(promise, "Returns how many observations are stored now, 1 to 6;",
            "observe(0, 0, 0) = 1; observe(0, 0, 0) = 2; observe(0, 0, 0) = 3; observe(0, 0, 0) = 4; observe(0, 0, 0) = 5; "
                + "observe(0, 0, 0) = 6; ".repeat(20),
            "observe(0, 0, 0) = 1; observe(12, 0, 0) = -2; observe(0, 0, 0) = 2; load() = -3; observe(0, 0, 0) = 3; undo() = -3; "
                + "observe(0, 0, 0) = 4");
        Sentences.test(promise, "BAD_VALUE if an argument is out of range.",
            each("observe(?, 0, 0)", -2, -1, 12, LEAST, MOST) + each("observe(0, ?, 0)", -2, -1, 12, LEAST, MOST)
                + each("observe(0, 1, ?)", -2, -1, 1000, LEAST, MOST) + "observe(0, 0, 0) = 1",
            // A refused one is not stored: six that hold push out no other and are not pushed out.
            TWELVE + "observe(0, 0, 1) = 1; observe(0, 0, 0) = 2; observe(0, 0, 0) = 3; observe(0, 0, 0) = 4; observe(0, 0, 0) = 5; "
                + "observe(0, 0, 0) = 6; " + each("observe(0, 0, ?)", -2, -1, 1000) + "possibleWeights(0, 1) = 0; observe(0, 0, 0) = 6; "
                + "possibleWeights(0, 1) = 99; "
                + each("observe(0, 12, ?)", -2, 0, 1) + "possibleWeights(0, 1) = 99");
    }

    private static void possibleWeights() {
        String promise = "Promise 29";
        Sentences.test(promise, "Returns how many weights are possible for the edge between u and v;",
            TWELVE + "possibleWeights(0, 1) = 99; possibleWeights(1, 0) = 99; observe(0, 0, 0) = 1; possibleWeights(0, 1) = 99; "
                + "observe(1, 2, 7) = 2; possibleWeights(0, 1) = 99; "
            + "possibleWeights(1, 2) = 1; observe(0, 1, 99) = 3; possibleWeights(0, 1) = 1; possibleWeights(2, 1) = 0",
        TWELVE + "observe(0, 2, 7) = 1; possibleWeights(0, 1) = 0; observe(0, 2, 8) = 2; possibleWeights(0, 1) = 0",
            TWELVE + "observe(0, 2, 8) = 1; possibleWeights(0, 1) = 1; possibleWeights(1, 2) = 1",
            TWELVE + "observe(0, 2, 106) = 1; possibleWeights(0, 1) = 1; possibleWeights(1, 2) = 0",
            TWELVE + "observe(0, 2, 107) = 1; possibleWeights(0, 1) = 0; possibleWeights(1, 2) = 0; edgeWeight(0, 1) = 5; undo() = 1",
            TWELVE + "observe(0, 3, 5) = 1; possibleWeights(0, 1) = 0");
        Sentences.test(promise, NO_SUCH_INDEX, inAll("possibleWeights(?, 1)"), inAll("possibleWeights(1, ?)"),
            inAll("possibleWeights(?, ?)"));
        Sentences.test(promise, "NOT_POSSIBLE if there is no such edge.",
            each("possibleWeights(?, ?)", -3, 0, 5, 11) + "possibleWeights(0, 1) = -3",
            TWELVE + "possibleWeights(0, 2) = -3; possibleWeights(2, 0) = -3; possibleWeights(0, 3) = -3; possibleWeights(1, 1) = -3; "
                + "observe(0, 0, 1) = 1; "
            + "possibleWeights(0, 2) = -3; cut(0, 1) = 5; possibleWeights(0, 1) = -3");
    }

    private static void runScript() {
        String promise = "Promise 30";
        Sentences.plain(promise, "Runs a script on a copy of the state.");
        Sentences.test(promise, "`n`: number of commands, 1 to 3",
            "runScript(1, 30000) = -9; runScript(2, 3000030000) = -9; runScript(3, 300003000030000) = -9");
        Sentences.test(promise, "`script`: the commands, a number of at most 5 * n digits (0 or more)",
            "runScript(1, 0) = 0; runScript(2, 0) = 0; runScript(3, 0) = 0; runScript(1, 99999) = 0; runScript(2, 9999999999) = 0; "
                + "runScript(3, 999999999999999) = 0",
            // Fewer digits than 5 * n, and numbers that no int holds.
            "runScript(2, 30000) = 0; runScript(3, 3000030000) = 0; runScript(2, 3000030000) = -9; runScript(3, 311113000030505) = -9; "
                + "link(0, 1, 5) = 1; runScript(3, 200011000120001) = -9");
        Sentences.test(promise, "Returns the result of the script;",
            "runScript(1, 30000) = -9; runScript(1, 30001) = 0; runScript(2, 3000030001) = 1; runScript(3, 300003000030001) = 2; "
                + "runScript(3, 300003000130000) = 1; runScript(3, 300013000030000) = 0");
        Sentences.test(promise, "BAD_VALUE if n is out of range,",
            each("runScript(?, 30000)", -2, 0, 4, -1, LEAST, MOST) + each("runScript(?, 0)", -2, 0, 4));
        Sentences.test(promise, "or if script is negative or has more than 5 * n digits.",
            each("runScript(1, ?)", -2, -1, -30000, 100000, 300000, 130000, Long.MIN_VALUE, Long.MAX_VALUE),
            each("runScript(2, ?)", -2, -1, 10000000000L, Long.MIN_VALUE, Long.MAX_VALUE),
            each("runScript(3, ?)", -2, -1, 1000000000000000L, Long.MIN_VALUE, Long.MAX_VALUE),
            // 30000 in the lowest 32 bits.
            each("runScript(1, ?)", -2, 30000 + (1L << 32), 30000 + (1L << 62), Long.MIN_VALUE + 30000));
    }

    private static void randomChanges() {
        String promise = "Promise 31";
        String two = loaded("F020101ab05");
        String apart = loaded("F020101");
        Sentences.test(promise, "Changes a copy of the state at random.",
            "randomChanges(604, 60) = " + changes(12, 604, 60) + "; undo() = -3; save(0) = 0; randomChanges(604, 60) = "
                + changes(12, 604, 60),
            apart + "randomChanges(604, 1) = 99; edgeWeight(0, 1) = -9; undo() = -3; randomChanges(604, 1) = 99",
            two + "randomChanges(886, 1) = 0; edgeWeight(0, 1) = 5; randomChanges(604, 1) = 99; edgeWeight(0, 1) = 5");
        Sentences.test(promise, "A long x starts as the seed.",
            apart + "randomChanges(649, 1) = 1; randomChanges(886, 1) = 2; randomChanges(382, 1) = 98; randomChanges(604, 1) = 99; "
                + "randomChanges(0, 1) = 0");
        Sentences.test(promise,
            "Each of the m steps first replaces x by x * 6364136223846793005L + 1442695040888963407L (with long overflow) and then "
                + "computes r = (int) (x >>> 33).",
            wrapping(0, 1, -1, Long.MAX_VALUE), wrapping(Long.MIN_VALUE, Long.MAX_VALUE - 1, Long.MIN_VALUE + 1, 1L << 32),
            wrapping(-77, 77, 1L << 33, -1L << 33),
            "randomChanges(9223372036854775807, 1) = 52; randomChanges(9223372036854775807, 60) = 16051; "
                + "randomChanges(-9223372036854775808, 60) = 22458; randomChanges(0, 60) = 12218; randomChanges(-1, 60) = 18262");
        Sentences.test(promise, "Let u be r % n, v be r / 16 % n and w be r / 256 % 99 + 1.",
            apart + "randomChanges(649, 1) = 1; randomChanges(604, 1) = 99",
            loaded("F0101") + "randomChanges(9223372036854775807, 60) = 0; randomChanges(0, 1) = 0",
            loaded("F12" + "01".repeat(12)) + "randomChanges(-1, 60) = 18262",
            loaded("F03010101") + "randomChanges(5, 60) = " + changes(3, 5, 60));
        Sentences.test(promise, "If there is an edge between u and v, it is cut if w is even, and otherwise it gets the weight w.",
            two + "randomChanges(886, 1) = 0; randomChanges(382, 1) = 0; randomChanges(649, 1) = 1; randomChanges(604, 1) = 99",
            apart + "randomChanges(5, 2) = 166; randomChanges(5, 3) = 166; randomChanges(5, 4) = 259; "
                + "randomChanges(-9223372036854775808, 5) = 76");
        Sentences.test(promise,
            "If there is none, u and v are linked by an edge of the weight w if they are in different trees, and otherwise nothing "
                + "happens.", apart + "randomChanges(649, 1) = 1; randomChanges(382, 1) = 98; randomChanges(886, 1) = 2; "
                + "randomChanges(604, 1) = 99",
            // u and v are equal; and u and v are the ends of a path of two edges, which a third one of the weight 1 would shorten.
            two + "randomChanges(0, 1) = 5", apart + "randomChanges(0, 1) = 0", THREE + "randomChanges(802, 1) = 12");
        Sentences.test(promise, "`seed`: any long", wrapping(Long.MIN_VALUE, Long.MAX_VALUE, 0, -1));
        Sentences.test(promise, "`m`: number of steps, 1 to 60",
            "randomChanges(77, 1) = 0; randomChanges(77, 60) = 15933; randomChanges(77, 59) = " + changes(12, 77, 59) + "; "
                + "randomChanges(77, 2) = " + changes(12, 77, 2));
        Sentences.test(promise, "Returns the sum, over all steps, of the diameter of the tree of vertex 0 after the step;",
            apart + "randomChanges(-9223372036854775808, 3) = 0; randomChanges(-9223372036854775808, 4) = 13; "
                + "randomChanges(-9223372036854775808, 5) = 76; randomChanges(-9223372036854775808, 6) = 139",
            two + "randomChanges(0, 1) = 5",
            // The tree of 1 and 2 does not count before it hangs on 0.
            loaded("F03010101bc99") + "randomChanges(0, 1) = 0; randomChanges(7, 1) = 155");
        Sentences.test(promise, "BAD_VALUE if m is out of range.",
            each("randomChanges(5, ?)", -2, 0, 61, -1, LEAST, MOST) + each("randomChanges(-9223372036854775808, ?)", -2, 0, 61));
    }

    private static void save() {
        String promise = "Promise 32";
        Sentences.test(promise, "Stores the present state in a slot.",
            "save(0) = 0; link(0, 1, 5) = 1; save(1) = 1; setVertexWeight(0, 9) = 1; restore(0) = 0; edgeWeight(0, 1) = -9; "
                + "vertexWeight(0) = 1; restore(1) = 1; edgeWeight(0, 1) = 5; vertexWeight(0) = 1",
            // A full slot is written over; the other one is left alone, empty or full; the remembered states are too.
            "save(0) = 0; setVertexWeight(0, 9) = 1; save(0) = 0; restore(1) = -3; restore(0) = 0; vertexWeight(0) = 9",
            "setVertexWeight(0, 9) = 1; save(0) = 0; save(1) = 0; undo() = 0; vertexWeight(0) = 1; undo() = -3");
        Sentences.test(promise, "`slot`: 0 or 1", "restore(0) = -3; restore(1) = -3; save(0) = 0; restore(0) = 0; restore(1) = -3; "
                + "save(1) = 0; restore(1) = 0");
        Sentences.test(promise, "Returns the number of edges;",
            "save(0) = 0; save(1) = 0; link(0, 1, 5) = 1; save(0) = 1; cut(0, 1) = 5; save(0) = 0",
            chain(1) + "save(0) = 11; save(1) = 11", loaded("F0101") + "save(0) = 0");
        Sentences.test(promise, NO_SUCH_INDEX, each("save(?)", -1, -1, 2, LEAST, MOST) + "restore(0) = -3; restore(1) = -3",
            "save(0) = 0; setVertexWeight(0, 9) = 1; " + each("save(?)", -1, -1, 2) + "restore(0) = 0; vertexWeight(0) = 1; "
                + "restore(1) = -3");
    }

    private static void restore() {
        String promise = "Promise 33";
        Sentences.test(promise, "Replaces the state by the one in a slot, and forgets all remembered states.",
            "save(0) = 0; link(0, 1, 5) = 1; setVertexWeight(3, 9) = 1; restore(0) = 0; edgeWeight(0, 1) = -9; vertexWeight(3) = 1; "
                + "undo() = -3; setVertexWeight(0, 2) = 1; undo() = 0; undo() = -3",
            risingWeights(20) + "save(1) = 0; restore(1) = 0; undo() = -3; vertexWeight(0) = 21");
        Sentences.test(promise, "The slot keeps its state.",
            "link(0, 1, 5) = 1; save(0) = 1; restore(0) = 1; cut(0, 1) = 5; setVertexWeight(0, 9) = 1; restore(0) = 1; "
                + "edgeWeight(0, 1) = 5; vertexWeight(0) = 1; restore(0) = 1",
            "save(1) = 0; restore(1) = 0; link(0, 1, 5) = 1; undo() = 0; link(0, 1, 6) = 1; restore(1) = 0; edgeWeight(0, 1) = -9");
        Sentences.test(promise, "`slot`: 0 or 1", "save(0) = 0; setVertexWeight(0, 9) = 1; save(1) = 0; restore(0) = 0; "
                + "vertexWeight(0) = 1; restore(1) = 0; vertexWeight(0) = 9; restore(0) = 0; vertexWeight(0) = 1");
        Sentences.test(promise, "Returns the number of edges;",
            "save(0) = 0; link(0, 1, 5) = 1; save(1) = 1; restore(0) = 0; restore(1) = 1",
            chain(1) + "save(0) = 11; cut(0, 1) = 1; restore(0) = 11", loaded("F0101") + "save(0) = 0; restore(0) = 0");
        Sentences.test(promise, NO_SUCH_INDEX, each("restore(?)", -1, -1, 2, LEAST, MOST),
            "save(0) = 0; save(1) = 0; setVertexWeight(0, 9) = 1; " + each("restore(?)", -1, -1, 2, LEAST, MOST) + "vertexWeight(0) = 9; "
                + "undo() = 0; vertexWeight(0) = 1");
        Sentences.test(promise, "NOT_POSSIBLE if the slot is empty.", "restore(0) = -3; restore(1) = -3",
            "link(0, 1, 5) = 1; save(1) = 1; setEdgeWeight(0, 1, 6) = 5; restore(0) = -3; edgeWeight(0, 1) = 6; undo() = 1; "
                + "edgeWeight(0, 1) = 5; restore(1) = 1; restore(0) = -3",
            "save(0) = 0; restore(1) = -3; " + loaded("F0107") + "restore(0) = -3; restore(1) = -3; vertexWeight(0) = 7");
    }

    // ---- parts of runs

    /** The call with numbers that are no vertices, in forests of 12, of 3 and of 2 vertices that have an edge between 0 and 1. */
    private static String inAll(String call) {
        return TWELVE + strangers(call, 12) + "undo() = 1; undo() = 0; " + THREE + strangers(call, 3) + "undo() = -3; clearText() = 17; "
            + loaded("F020101ab05") + strangers(call, 2) + "undo() = -3";
    }

    private static String wrapping(long... seeds) {
        StringBuilder run = new StringBuilder();
        for (long seed : seeds) {
            for (int m : new int[] {1, 2, 30, 60}) {
                run.append("randomChanges(").append(seed).append(", ").append(m).append(") = ").append(changes(12, seed, m)).append("; ");
            }
        }
        return run.toString();
    }

    /** The sum that is due from randomChanges for n vertices without edges, by a table of edges and a walk from each vertex. */
    private static long changes(int n, long seed, int m) {
        int[][] edges = new int[n][n];
        long sum = 0;
        long x = seed;
        for (int step = 0; step < m; step++) {
            x = x * 6364136223846793005L + 1442695040888963407L;
            int r = (int) (x >>> 33);
            int u = r % n;
            int v = r / 16 % n;
            int w = r / 256 % 99 + 1;
            if (edges[u][v] == 0 && walk(edges, u, new int[n])[v] >= 0) {
                w = 0;
            } else if (edges[u][v] != 0 && w % 2 == 0) {
                w = 0;
            }
            edges[u][v] = w;
            edges[v][u] = w;
            sum += width(edges);
        }
        return sum;
    }

    private static int width(int[][] edges) {
        int width = 0;
        int[] fromZero = walk(edges, 0, new int[edges.length]);
        for (int v = 0; v < edges.length; v++) {
            for (int length : fromZero[v] < 0 ? new int[0] : walk(edges, v, new int[edges.length])) {
                width = Math.max(width, length);
            }
        }
        return width;
    }

    /** The lengths of the ways from a vertex, -1 where there is no way. */
    private static int[] walk(int[][] edges, int from, int[] lengths) {
        Arrays.fill(lengths, -1);
        ArrayDeque<Integer> reached = new ArrayDeque<>(List.of(from));
        lengths[from] = 0;
        while (!reached.isEmpty()) {
            int at = reached.poll();
            for (int next = 0; next < lengths.length; next++) {
                if (edges[at][next] != 0 && lengths[next] < 0) {
                    lengths[next] = lengths[at] + edges[at][next];
                    reached.add(next);
                }
            }
        }
        return lengths;
    }
}
