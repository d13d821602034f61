import java.util.TreeSet;

/** Runs of calls with ordinary inputs, edges and wrong inputs, under the number of the promise that they test. */
public final class PromiseTests extends Calls {
    private static final int PROMISES = 33;

    private static final String PATH =
        "link(0, 1, 1) = 1; link(1, 2, 2) = 2; link(2, 3, 3) = 3; link(3, 4, 4) = 4; ";
    private static final String STAR = "link(5, 0, 1) = 1; link(5, 1, 2) = 2; link(5, 2, 3) = 3; link(5, 3, 4) = 4; ";

    private static final TreeSet<Integer> tested = new TreeSet<>();

    public static void main(String[] args) {
        newObject();
        setupText();
        errorPositions();
        loading();
        reading();
        actions();
        undoing();
        distances();
        widths();
        costs();
        meetings();
        contractions();
        balancedCuts();
        reaches();
        observations();
        scripts();
        randomChanges();
        slots();
        examples();
        for (int promise = 1; promise <= PROMISES; promise++) {
            if (!tested.contains(promise)) {
                fail("promise " + promise + " has no test");
            }
        }
        finish();
    }

    private static void newObject() {
        run(1, "treeOf(0) = 0; treeOf(11) = 11; treeOf(12) = -1; save(0) = 0; undo() = -3");
        run(1, "clearText() = 0; restore(0) = -3; restore(1) = -3; cut(0, 1) = -3");
        run(1, "link(0, 11, 5) = 1; possibleWeights(0, 11) = 99; observe(0, 0, 0) = 1");
        for (int v = 0; v < 12; v++) {
            run(1, "vertexWeight(" + v + ") = 1; rounds(" + v + ") = 0; edgeWeight(" + v + ", " + v + ") = -9");
            for (int u = 0; u < 12; u++) {
                run(1, "edgeWeight(" + u + ", " + v + ") = -9");
            }
        }
        WeightedForest first = new WeightedForest();
        WeightedForest second = new WeightedForest();
        due(1, "link on one of two objects", first.link(0, 1, 5), 1);
        due(1, "the other object", second.edgeWeight(0, 1), -9);
    }

    private static void setupText() {
        run(2, "append(0) = 1; append(255) = 2; append(-1) = -2; append(256) = -2; append(70) = 3");
        run(2, "append(-2147483648) = -2; append(2147483647) = -2; clearText() = 0");
        String full = "text(" + "x".repeat(79) + ") = 79; ";
        run(2, full + "append(120) = 80; append(120) = -4; append(0) = -4; append(256) = -2; append(-1) = -2");
        run(3, full + "clearText() = 79; clearText() = 0; append(70) = 1; clearText() = 1");
        run(3, full + "append(120) = 80; append(120) = -4; clearText() = 80; append(120) = 1");
        run(3, "text(F0299) = 5; clearText() = 5; errorPosition() = 0; text(F0107) = 5; load() = 0; vertexWeight(0) = 7");
        run(3, "text(F0107) = 5; load() = 0; clearText() = 5; vertexWeight(0) = 7; vertexWeight(1) = -1");
    }

    private static void errorPositions() {
        position("", 0);
        position("G", 0);
        position("f", 0);
        position("0", 0);
        position("F", 1);
        position("Fa", 1);
        position("F2", 1);
        position("F/", 1);
        position("F0", 2);
        position("F00", 2);
        position("F0:", 2);
        position("F1", 2);
        position("F13", 2);
        position("F1/", 2);
        position("F01", 3);
        position("F12", 3);
        position("F01a", 3);
        position("F010", 4);
        position("F010:", 4);
        position("F010/", 4);
        position("F0100", -9);
        position("F0199", -9);
        position("F0100a", 6);
        position("F0100aa", 6);
        position("F0100b", 5);
        position("F0100F", 5);
        position("F02000", 6);
        position("F020000", -9);
        position("F020000a", 8);
        position("F020000b", 8);
        position("F020000c", 7);
        position("F020000A", 7);
        position("F020000`", 7);
        position("F0200000", 7);
        position("F020000ab", 9);
        position("F020000ac", 8);
        position("F020000aa", 8);
        position("F020000bb", 8);
        position("F020000ab0", 10);
        position("F020000ab00", 10);
        position("F020000ab01", -9);
        position("F020000ba99", -9);
        position("F020000ab:", 9);
        position("F020000ab9/", 10);
        position("F020000ab99b", 12);
        position("F020000ab99ab", 12);
        position("F020000ab99 ", 11);
        position("F03000000ab01bc01", -9);
        position("F03000000ab01bc01c", 18);
        position("F03000000ab01bc01ca", 18);
        position("F03000000ab01bc01cd", 18);
        position("F03000000ab01bc01d", 17);
        position("F04" + "01".repeat(4) + "ab01cd01bd01ac", 24);
        position("F020000ba01ab", 12);
        position("F03000000ba01cb01ac", 18);
        String twelve = "F12" + "01".repeat(12);
        position(twelve, -9);
        position(twelve + "l", 28);
        position(twelve + "m", 27);
        position(twelve + "al10", -9);
        position(twelve + "am10", 28);
        String chain = twelve + "ab10bc10cd10de10ef10fg10gh10hi10ij10jk10kl10";
        position(chain, -9);
        position(chain + "a", 72);
        position(chain + "al", 72);
        position(chain + "m", 71);
        run(4, "text(F0100) = 5; errorPosition() = -9; append(0) = 6; errorPosition() = 5; vertexWeight(0) = 1");
    }

    private static void position(String text, int want) {
        String written = text.isEmpty() ? "" : "text(" + text + ") = " + text.length() + "; ";
        int answer = want == -9 ? (text.length() - 3 - 2 * Integer.parseInt(text.substring(1, 3))) / 4 : -3;
        run(4, written + "errorPosition() = " + want + "; load() = " + answer + "; errorPosition() = " + want
            + "; clearText() = " + text.length());
    }

    private static void loading() {
        run(5, "text(F03000799cb42) = 13; load() = 1; vertexWeight(0) = 0; vertexWeight(1) = 7; vertexWeight(2) = 99; "
            + "vertexWeight(3) = -1; edgeWeight(1, 2) = 42; edgeWeight(0, 1) = -9; distance(1, 2) = 42; load() = 1");
        run(5, "link(0, 1, 5) = 1; setVertexWeight(2, 9) = 1; text(F030101) = 7; load() = -3; edgeWeight(0, 1) = 5; "
            + "vertexWeight(2) = 9; undo() = 1; save(0) = 1; load() = -3; restore(0) = 1; clearText() = 7");
        run(5, "link(0, 1, 5) = 1; save(0) = 1; save(1) = 1; text(F020101) = 7; load() = 0; undo() = -3; "
            + "restore(0) = -3; restore(1) = -3; edgeWeight(0, 1) = -9; edgeWeight(0, 2) = -1; clearText() = 7");
        run(5, "observe(0, 1, 8) = 1; text(F020101ab05) = 11; load() = 1; possibleWeights(0, 1) = 1; "
            + "observe(0, 1, 8) = 2; load() = 1; observe(0, 2, 8) = 3; possibleWeights(0, 1) = 0");
        run(5, "text(F020101) = 7; load() = 0; link(1, 2, 5) = -1; link(0, 1, 5) = 1; load() = 0; edgeWeight(0, 1) = -9");
        run(5, "text(F030101) = 7; load() = -3; text(01) = 9; load() = 0; treeOf(2) = 2; treeOf(3) = -1");
        run(5, "text(F0101) = 5; load() = 0; clearText() = 5; text(F12" + "01".repeat(12) + ") = 27; load() = 0; "
            + "treeOf(11) = 11; link(10, 11, 3) = 1");
        // Nothing of an earlier text, whole or spoiled, is left.
        run(5, "text(F03010101ab05bc06) = 17; load() = 2; clearText() = 17; text(F03010101) = 9; load() = 0; edgeWeight(0, 1) = -9; "
            + "edgeWeight(1, 2) = -9; treeOf(2) = 2; clearText() = 9; text(F03999999ac05x) = 14; load() = -3; vertexWeight(0) = 1; "
            + "clearText() = 14; text(F03010101ab02) = 13; load() = 1; edgeWeight(0, 2) = -9; edgeWeight(0, 1) = 2");
    }

    private static void reading() {
        run(6, "vertexWeight(-1) = -1; vertexWeight(12) = -1; vertexWeight(2147483647) = -1; vertexWeight(-2147483648) = -1");
        run(6, "setVertexWeight(3, 77) = 1; vertexWeight(3) = 77; vertexWeight(2) = 1; vertexWeight(4) = 1");
        run(6, "text(F020042) = 7; load() = 0; vertexWeight(0) = 0; vertexWeight(1) = 42; vertexWeight(2) = -1");
        run(7, "link(3, 7, 9) = 1; edgeWeight(3, 7) = 9; edgeWeight(7, 3) = 9; edgeWeight(3, 3) = -9; edgeWeight(3, 8) = -9");
        run(7, "edgeWeight(-1, 0) = -1; edgeWeight(0, -1) = -1; edgeWeight(12, 0) = -1; edgeWeight(0, 12) = -1");
        run(7, PATH + "edgeWeight(0, 2) = -9; edgeWeight(2, 1) = 2; edgeWeight(12, 12) = -1");
        run(8, "treeOf(-1) = -1; treeOf(12) = -1; link(7, 4, 1) = 1; treeOf(7) = 4; treeOf(4) = 4; treeOf(0) = 0");
        run(8, "link(5, 0, 1) = 1; treeOf(5) = 0; treeOf(0) = 0; link(5, 3, 1) = 2; treeOf(3) = 0; treeOf(2) = 2");
        run(8, "link(9, 8, 1) = 1; link(8, 11, 1) = 2; link(11, 2, 1) = 3; treeOf(9) = 2; treeOf(2) = 2; cut(8, 11) = 1; "
            + "treeOf(9) = 8; treeOf(11) = 2; text(F0101) = 5; load() = 0; treeOf(0) = 0; treeOf(1) = -1");
    }

    private static void actions() {
        run(9, "link(0, 1, 1) = 1; link(2, 3, 99) = 2; link(1, 3, 50) = 3; link(0, 2, 5) = -3; edgeWeight(3, 1) = 50");
        run(9, "link(0, 1, 0) = -2; link(0, 1, 100) = -2; link(0, 1, -5) = -2; link(0, 0, 1) = -3; link(0, 0, 0) = -2");
        run(9, "link(-1, 0, 1) = -1; link(0, -1, 1) = -1; link(12, 0, 1) = -1; link(0, 12, 0) = -1; undo() = -3");
        run(9, "link(0, 1, 4) = 1; link(0, 1, 5) = -3; link(1, 0, 5) = -3; edgeWeight(0, 1) = 4; undo() = 0; undo() = -3");
        run(10, "link(0, 1, 7) = 1; cut(1, 0) = 7; cut(1, 0) = -3; edgeWeight(0, 1) = -9; link(0, 1, 3) = 1; cut(0, 1) = 3");
        run(10, "cut(0, 0) = -3; cut(0, 1) = -3; cut(-1, 0) = -1; cut(0, -1) = -1; cut(12, 0) = -1; cut(0, 12) = -1");
        run(10, PATH + "cut(0, 2) = -3; cut(1, 2) = 2; distance(0, 2) = -9; distance(0, 1) = 1; link(5, 6, 1) = 4; undo() = 5");
        run(11, "link(0, 1, 7) = 1; setEdgeWeight(1, 0, 9) = 7; setEdgeWeight(0, 1, 99) = 9; edgeWeight(0, 1) = 99; "
            + "setEdgeWeight(0, 1, 1) = 99; setEdgeWeight(0, 1, 0) = -2; setEdgeWeight(0, 1, 100) = -2; distance(1, 0) = 1");
        run(11, "setEdgeWeight(0, 1, 5) = -3; setEdgeWeight(0, 1, 0) = -2; setEdgeWeight(0, 12, 0) = -1; "
            + "setEdgeWeight(-1, 0, 5) = -1; setEdgeWeight(12, 0, 5) = -1; setEdgeWeight(0, -1, 100) = -1; undo() = -3; "
            + "setEdgeWeight(4, 4, 5) = -3");
        run(12, "setVertexWeight(0, 0) = 1; setVertexWeight(0, 99) = 0; setVertexWeight(0, 5) = 99; vertexWeight(0) = 5; "
            + "undo() = 2; vertexWeight(0) = 99");
        run(12, "setVertexWeight(0, -1) = -2; setVertexWeight(0, 100) = -2; setVertexWeight(12, 100) = -1; "
            + "setVertexWeight(-1, 5) = -1; setVertexWeight(12, 5) = -1; undo() = -3; vertexWeight(0) = 1");
    }

    private static void undoing() {
        run(13, "undo() = -3; link(0, 1, 5) = 1; undo() = 0; undo() = -3; edgeWeight(0, 1) = -9");
        run(13, "link(0, 1, 5) = 1; setEdgeWeight(0, 1, 6) = 5; setVertexWeight(0, 7) = 1; cut(0, 1) = 6; undo() = 3; "
            + "edgeWeight(0, 1) = 6; vertexWeight(0) = 7; undo() = 2; vertexWeight(0) = 1; undo() = 1; "
            + "edgeWeight(0, 1) = 5; undo() = 0; edgeWeight(0, 1) = -9; undo() = -3");
        run(13, "setVertexWeight(0, 1) = 1; link(0, 1, 5) = 1; setEdgeWeight(0, 1, 5) = 5; undo() = 2; undo() = 1; undo() = 0");
        StringBuilder many = new StringBuilder();
        for (int i = 2; i <= 17; i++) {
            many.append("setVertexWeight(0, ").append(i).append(") = ").append(i - 1).append("; ");
        }
        StringBuilder back = new StringBuilder();
        for (int left = 13; left >= 0; left--) {
            back.append("undo() = ").append(left).append("; vertexWeight(0) = ").append(left + 3).append("; ");
        }
        run(13, many.toString() + back + "undo() = -3; vertexWeight(0) = 3");
        run(13, many.toString() + back + many.toString().replace("2) = 1;", "2) = 3;") + back + "undo() = -3");
        run(13, many + "setVertexWeight(0, 100) = -2; cut(0, 1) = -3; link(0, 0, 1) = -3; undo() = 13; vertexWeight(0) = 16");
        run(13, "link(0, 1, 5) = 1; observe(0, 1, 6) = 1; append(70) = 1; save(0) = 1; setEdgeWeight(0, 1, 7) = 5; undo() = 1; "
            + "undo() = 0; link(0, 1, 2) = 1; possibleWeights(0, 1) = 1; clearText() = 1; restore(0) = 1; "
            + "edgeWeight(0, 1) = 5; undo() = -3");
    }

    private static void distances() {
        run(14, PATH + "distance(0, 4) = 10; distance(4, 0) = 10; distance(1, 3) = 5; distance(2, 2) = 0; distance(0, 5) = -9");
        run(14, "distance(0, 12) = -1; distance(12, 0) = -1; distance(-1, -1) = -1; distance(11, 11) = 0; distance(0, -1) = -1");
        run(14, PATH + "setEdgeWeight(1, 2, 99) = 2; distance(0, 4) = 107; cut(2, 3) = 3; distance(0, 4) = -9; distance(0, 2) = 100");
        run(15, PATH + "pathVertex(4, 1, 0) = 4; pathVertex(4, 1, 1) = 3; pathVertex(4, 1, 2) = 2; pathVertex(4, 1, 3) = 1; "
            + "pathVertex(4, 1, 4) = -9; pathVertex(4, 1, -1) = -2; pathVertex(4, 1, 2147483647) = -9; pathVertex(0, 5, 0) = -9");
        run(15, STAR + "pathVertex(0, 3, 1) = 5; pathVertex(0, 3, 2) = 3; pathVertex(0, 3, 3) = -9; pathVertex(5, 5, 1) = -9");
        run(15, "pathVertex(12, 0, -1) = -1; pathVertex(0, 12, -1) = -1; pathVertex(-1, 0, 0) = -1; pathVertex(0, 1, -1) = -2; "
            + "pathVertex(0, 1, 0) = -9; pathVertex(3, 3, 0) = 3; pathVertex(3, 3, -2147483648) = -2; pathVertex(0, -1, 0) = -1");
        run(15, "link(3, 0, 1) = 1; link(0, 4, 1) = 2; pathVertex(3, 4, 1) = 0; pathVertex(3, 4, 2) = 4; pathVertex(4, 0, 1) = 0; pathVertex(4, 0, 2) = -9");
        StringBuilder chain = new StringBuilder();
        for (int v = 0; v < 11; v++) {
            chain.append("link(").append(v + 1).append(", ").append(v).append(", 99) = ").append(v + 1).append("; ");
        }
        run(15, chain + "pathVertex(0, 11, 11) = 11; pathVertex(0, 11, 10) = 10; pathVertex(0, 11, 12) = -9; pathVertex(0, 11, 13) = -9");
        run(14, chain + "distance(0, 11) = 1089; distance(11, 0) = 1089");
    }

    private static void widths() {
        run(16, PATH + "eccentricity(0) = 10; eccentricity(1) = 9; eccentricity(2) = 7; eccentricity(3) = 6; eccentricity(4) = 10");
        run(16, "eccentricity(12) = -1; eccentricity(-1) = -1; eccentricity(11) = 0");
        run(17, PATH + "diameter(0) = 10; diameter(2) = 10; diameter(5) = 0; diameter(12) = -1; diameter(-1) = -1");
        run(17, STAR + "diameter(5) = 7; diameter(0) = 7; cut(5, 3) = 4; diameter(5) = 5; diameter(3) = 0");
        run(18, PATH + "diameterEnd(2, 0) = 0; diameterEnd(2, 1) = 4; diameterEnd(7, 0) = 7; diameterEnd(7, 1) = 7");
        run(18, "diameterEnd(12, 2) = -1; diameterEnd(-1, 0) = -1; diameterEnd(0, 2) = -2; diameterEnd(0, -1) = -2");
        // Four leaves at equal distances: the pair with the smallest numbers is taken, 1 and 4, not 1 and 7.
        run(18, "link(0, 7, 2) = 1; link(0, 4, 2) = 2; link(0, 1, 2) = 3; link(0, 9, 2) = 4; diameterEnd(0, 0) = 1; diameterEnd(9, 1) = 4");
        // Two ends of longest paths, 1 and 2, hang on the same vertex: the pair of 1 is not 2 but 6.
        run(18, "link(1, 3, 1) = 1; link(2, 3, 1) = 2; link(3, 6, 5) = 3; link(3, 7, 5) = 4; diameterEnd(1, 0) = 6; diameterEnd(1, 1) = 7; "
            + "cut(3, 7) = 5; diameterEnd(1, 0) = 1; diameterEnd(1, 1) = 6");
        run(19, PATH + "centre(0) = 3; centre(4) = 3; centre(5) = 5; centre(12) = -1; centre(-1) = -1");
        run(19, "link(1, 0, 6) = 1; centre(1) = 0; link(0, 2, 6) = 2; centre(2) = 0; setEdgeWeight(0, 1, 13) = 6; centre(2) = 0");
        run(19, "link(4, 2, 6) = 1; centre(4) = 2; centre(2) = 2; link(2, 9, 6) = 2; centre(9) = 2; link(4, 1, 6) = 3; centre(9) = 2; "
            + "setEdgeWeight(2, 9, 5) = 6; centre(9) = 4");
    }

    private static void costs() {
        run(20, PATH + "median(0) = 2; median(4) = 2; median(6) = 6; median(12) = -1; median(-1) = -1");
        run(20, "link(3, 1, 5) = 1; median(3) = 1; setVertexWeight(3, 2) = 1; median(1) = 3; setVertexWeight(1, 2) = 1; median(3) = 1");
        run(20, PATH + "setVertexWeight(4, 99) = 1; median(0) = 4; setVertexWeight(0, 98) = 1; cost(2) = 992; cost(3) = 992; median(0) = 2");
        run(20, "text(F03000000ac01ab01) = 17; load() = 2; median(2) = 0");
        run(21, PATH + "cost(0) = 20; cost(1) = 17; cost(2) = 15; cost(3) = 18; cost(4) = 30; cost(5) = 0");
        run(21, "cost(12) = -1; cost(-1) = -1; link(0, 1, 99) = 1; setVertexWeight(1, 99) = 1; cost(0) = 9801; cost(1) = 99; "
            + "setVertexWeight(0, 0) = 1; cost(1) = 0");
    }

    private static void meetings() {
        run(22, STAR + "meeting(0, 1, 2) = 5; meeting(0, 1, 5) = 5; meeting(0, 0, 3) = 0; meeting(3, 0, 3) = 3; meeting(2, 2, 2) = 2");
        run(22, PATH + "meeting(4, 0, 2) = 2; meeting(2, 4, 0) = 2; meeting(0, 2, 4) = 2; meeting(1, 1, 0) = 1; meeting(0, 1, 5) = -9; "
            + "meeting(5, 0, 1) = -9; meeting(0, 5, 1) = -9; meeting(5, 5, 1) = -9");
        run(22, "meeting(12, 0, 1) = -1; meeting(0, 12, 1) = -1; meeting(0, 1, 12) = -1; meeting(-1, 0, 0) = -1; meeting(0, -1, 0) = -1; "
            + "meeting(0, 1, -1) = -1; meeting(0, 1, 2) = -9");
        run(22, PATH + "link(2, 6, 1) = 5; link(6, 7, 1) = 6; link(6, 8, 1) = 7; meeting(0, 7, 8) = 6; meeting(7, 0, 4) = 2; meeting(7, 8, 6) = 6");
    }

    private static void contractions() {
        // Two vertices: only the greater number goes. Three: both leaves go at once.
        run(23, "rounds(0) = 0; rounds(12) = -1; rounds(-1) = -1; link(4, 2, 1) = 1; rounds(2) = 1; rounds(4) = 1; link(4, 7, 1) = 2; rounds(7) = 1");
        run(23, STAR + "rounds(0) = 1; rounds(5) = 1; rounds(4) = 0");
        // Raked to 1 - 2 - 3, compressed to 1 - 3, raked to 1.
        run(23, PATH + "rounds(0) = 2; rounds(5) = 0");
        run(24, PATH + "removalRound(0) = 1; removalRound(1) = -9; removalRound(2) = 1; removalRound(3) = 2; removalRound(4) = 1; removalRound(5) = -9");
        run(24, "removalRound(12) = -1; removalRound(-1) = -1; removalRound(11) = -9; link(4, 2, 1) = 1; removalRound(2) = -9; removalRound(4) = 1");
        run(24, STAR + "removalRound(0) = 1; removalRound(1) = 1; removalRound(2) = 1; removalRound(3) = 1; removalRound(5) = -9");
        run(25, PATH + "survivor(0) = 1; survivor(4) = 1; survivor(11) = 11; survivor(12) = -1; survivor(-1) = -1");
        run(25, STAR + "survivor(2) = 5; survivor(5) = 5");
        run(25, "link(9, 3, 1) = 1; survivor(9) = 3; survivor(3) = 3; edgeWeight(3, 9) = 1; rounds(3) = 1; rounds(3) = 1");
        // After the rake the path 10 - 1 - 2 - 3 - 11 is left: 1 goes, 2 has a created edge, 3 goes: 10 - 2 - 11.
        String path = "link(8, 10, 1) = 1; link(10, 1, 1) = 2; link(1, 2, 1) = 3; link(2, 3, 1) = 4; link(3, 11, 1) = 5; link(11, 9, 1) = 6; ";
        run(24, path + "removalRound(1) = 1; removalRound(2) = -9; removalRound(3) = 1; removalRound(10) = 2; removalRound(11) = 2; rounds(8) = 2");
        // By numbers, not along the path: 8 - 0 - 2 - 1 - 3 - 9 rakes to 0 - 2 - 1 - 3; 1 goes first, so that 2 stays.
        run(24, "link(8, 0, 1) = 1; link(0, 2, 1) = 2; link(2, 1, 1) = 3; link(1, 3, 1) = 4; link(3, 9, 1) = 5; removalRound(1) = 1; "
            + "removalRound(2) = -9; removalRound(0) = 2; removalRound(3) = 2; survivor(9) = 2; rounds(9) = 2");
        // The rake leaves 0 - 1 - 2, where 1 goes; and 1 - 0 - 2, where 0 goes.
        run(24, "link(9, 0, 1) = 1; link(0, 1, 1) = 2; link(1, 2, 1) = 3; link(2, 10, 1) = 4; removalRound(1) = 1; removalRound(2) = 2; survivor(9) = 0");
        run(24, "link(9, 1, 1) = 1; link(1, 0, 1) = 2; link(0, 2, 1) = 3; link(2, 10, 1) = 4; removalRound(0) = 1; removalRound(2) = 2; survivor(9) = 1");
        // A vertex with three edges is not compressed.
        run(24, "link(0, 1, 1) = 1; link(0, 2, 1) = 2; link(0, 3, 1) = 3; link(1, 4, 1) = 4; link(2, 5, 1) = 5; link(3, 6, 1) = 6; removalRound(0) = -9; "
            + "removalRound(1) = 2; removalRound(4) = 1; rounds(6) = 2");
        // Edges that the first round created are old in the second, so that 5 goes there.
        run(24, longPath() + "rounds(5) = 3; removalRound(5) = 2; removalRound(3) = 3; removalRound(9) = 3; removalRound(7) = -9; removalRound(6) = 1");
        // 0 has three edges in the first round, two of them created then; the second rakes 1, and 0 goes between two old edges.
        run(24, "link(0, 1, 1) = 1; link(1, 2, 1) = 2; link(0, 3, 1) = 3; link(3, 4, 1) = 4; link(4, 5, 1) = 5; link(5, 6, 1) = 6; link(0, 7, 1) = 7; "
            + "link(7, 8, 1) = 8; link(8, 9, 1) = 9; link(9, 10, 1) = 10; removalRound(3) = 1; removalRound(0) = 2; survivor(0) = 4; rounds(0) = 3");
        // The third arm is 0 - 6 - 8 - 10 after the first round; in the second, 6 goes between two old edges.
        run(24, "link(0, 1, 1) = 1; link(1, 2, 1) = 2; link(0, 3, 1) = 3; link(3, 4, 1) = 4; link(0, 5, 1) = 5; link(5, 6, 1) = 6; link(6, 7, 1) = 7; "
            + "link(7, 8, 1) = 8; link(8, 9, 1) = 9; link(9, 10, 1) = 10; link(10, 11, 1) = 11; removalRound(5) = 1; removalRound(6) = 2; removalRound(8) = 3; "
            + "survivor(0) = 0; rounds(0) = 3");
        run(25, PATH + "link(7, 8, 1) = 5; survivor(4) = 1; survivor(8) = 7; survivor(0) = 1; link(0, 7, 1) = 6; survivor(0) = 1; survivor(9) = 9");
        run(25, "survivor(0) = 0; survivor(5) = 5; removalRound(0) = -9; link(0, 5, 1) = 1; link(1, 5, 1) = 2; removalRound(0) = 1; survivor(7) = 7; removalRound(5) = -9");
        // The rake makes new leaves, 1 and 2, with one edge: they stay in this round, and go as a pair in the next.
        run(24, "link(0, 1, 1) = 1; link(1, 2, 1) = 2; link(2, 3, 1) = 3; removalRound(0) = 1; removalRound(3) = 1; removalRound(2) = 2; removalRound(1) = -9");
    }

    private static String longPath() {
        StringBuilder path = new StringBuilder();
        for (int v = 0; v < 11; v++) {
            path.append("link(").append(v).append(", ").append(v + 1).append(", 1) = ").append(v + 1).append("; ");
        }
        return path.toString();
    }

    private static void balancedCuts() {
        run(26, PATH + "balancedCut(0) = 102; balancedCut(4) = 102; setVertexWeight(4, 2) = 1; balancedCut(0) = 203; balancedCut(5) = -9");
        run(26, "balancedCut(12) = -1; balancedCut(-1) = -1; balancedCut(0) = -9; link(11, 10, 1) = 1; balancedCut(11) = 1011; balancedCut(0) = -9");
        run(26, STAR + "balancedCut(3) = 5; setVertexWeight(2, 4) = 1; balancedCut(0) = 205; setVertexWeight(2, 0) = 4; balancedCut(0) = 5");
        run(26, "text(F03000000bc01ac09) = 17; load() = 2; balancedCut(1) = 2");
        run(26, "link(0, 1, 1) = 1; link(2, 3, 1) = 2; balancedCut(3) = 203; balancedCut(1) = 1");
    }

    private static void reaches() {
        run(27, "expectedReach(0, 5) = 100000000000; expectedReach(12, 0) = -1; expectedReach(-1, 11) = -1; expectedReach(0, 11) = -2; expectedReach(0, -1) = -2");
        run(27, PATH + "expectedReach(0, 0) = 500000000000; expectedReach(0, 10) = 100000000000; expectedReach(0, 5) = 193750000000; "
            + "expectedReach(2, 5) = 250000000000; expectedReach(2, 1) = 442000000000; expectedReach(5, 1) = 100000000000");
        run(27, STAR + "setVertexWeight(3, 99) = 1; expectedReach(0, 5) = 2675000000000; setVertexWeight(0, 0) = 1; expectedReach(0, 10) = 0; "
            + "expectedReach(5, 10) = 100000000000");
        StringBuilder chain = new StringBuilder("text(F12" + "99".repeat(12));
        for (char at = 'a'; at < 'l'; at++) {
            chain.append(at).append((char) (at + 1)).append("01");
        }
        // 99 times the sum of 9^k * 10^(11 - k) for k from 0 to 11 is 99 * (10^12 - 9^12), and so on.
        run(27, chain + ") = 71; load() = 11; expectedReach(0, 1) = 71039475888381; expectedReach(0, 0) = 118800000000000; "
            + "expectedReach(0, 9) = 10999999999989; expectedReach(0, 10) = 9900000000000");
    }

    private static void observations() {
        run(28, "observe(0, 0, 0) = 1; observe(11, 11, 999) = 2; observe(0, 11, 5) = 3; observe(1, 2, 3) = 4; observe(1, 2, 3) = 5; "
            + "observe(1, 2, 3) = 6; observe(1, 2, 3) = 6; observe(12, 0, 0) = -2; observe(0, 12, 0) = -2; observe(0, 0, 1000) = -2");
        run(28, "observe(-1, 0, 0) = -2; observe(0, -1, 0) = -2; observe(0, 0, -1) = -2; observe(0, 0, 0) = 1");
        run(28, "text(F0101) = 5; load() = 0; observe(11, 11, 0) = 1");
        // Six observations that do not hold are pushed out one by one; the oldest goes first.
        run(28, "link(0, 1, 5) = 1; observe(0, 0, 1) = 1; observe(0, 1, 7) = 2; observe(0, 1, 7) = 3; observe(0, 1, 7) = 4; observe(0, 1, 7) = 5; "
            + "observe(0, 1, 7) = 6; possibleWeights(0, 1) = 0; observe(0, 1, 7) = 6; possibleWeights(0, 1) = 1; observe(0, 1, 8) = 6; "
            + "possibleWeights(0, 1) = 0; observe(0, 1, 8) = 6; observe(0, 1, 8) = 6; observe(0, 1, 8) = 6; observe(0, 1, 8) = 6; "
            + "possibleWeights(0, 1) = 0; observe(0, 1, 8) = 6; possibleWeights(0, 1) = 1");
        run(29, PATH + "possibleWeights(0, 1) = 99; possibleWeights(1, 0) = 99; possibleWeights(0, 2) = -3; possibleWeights(0, 0) = -3; "
            + "possibleWeights(12, 0) = -1; possibleWeights(0, 12) = -1; possibleWeights(-1, 0) = -1; possibleWeights(0, -1) = -1");
        run(29, PATH + "observe(4, 0, 108) = 1; possibleWeights(0, 1) = 1; possibleWeights(2, 1) = 0; possibleWeights(2, 3) = 0; cut(3, 4) = 4; "
            + "possibleWeights(0, 1) = 0; undo() = 4; possibleWeights(0, 1) = 1; observe(0, 1, 98) = 2; possibleWeights(0, 1) = 0");
        run(29, PATH + "observe(4, 0, 107) = 1; possibleWeights(0, 1) = 1; possibleWeights(2, 1) = 1");
        run(29, PATH + "observe(0, 2, 2) = 1; possibleWeights(0, 1) = 0; possibleWeights(1, 2) = 1; possibleWeights(2, 3) = 0; observe(2, 4, 7) = 2; "
            + "possibleWeights(1, 2) = 1; observe(2, 4, 8) = 3; possibleWeights(1, 2) = 0");
        run(29, PATH + "observe(3, 4, 4) = 1; possibleWeights(0, 1) = 99; observe(3, 3, 0) = 2; possibleWeights(0, 1) = 99; observe(5, 5, 0) = 3; "
            + "possibleWeights(0, 1) = 99; observe(5, 0, 1) = 4; possibleWeights(0, 1) = 0");
        run(29, "text(F020101ab05) = 11; load() = 1; observe(0, 1, 9) = 1; possibleWeights(0, 1) = 1; observe(2, 2, 0) = 2; possibleWeights(0, 1) = 0; "
            + "possibleWeights(0, 2) = -1; edgeWeight(0, 1) = 5");
        run(29, "text(F020101ab05) = 11; load() = 1; observe(2, 0, 0) = 1; possibleWeights(0, 1) = 0");
        run(29, "text(F020101ab05) = 11; load() = 1; observe(0, 2, 0) = 1; possibleWeights(0, 1) = 0");
        run(29, "link(0, 1, 5) = 1; observe(0, 1, 99) = 1; possibleWeights(0, 1) = 1; observe(0, 1, 100) = 2; possibleWeights(0, 1) = 0; undo() = 0; undo() = -3");
        run(29, "link(0, 1, 5) = 1; observe(0, 1, 0) = 1; possibleWeights(0, 1) = 0");
        run(29, "link(0, 1, 5) = 1; observe(0, 1, 100) = 1; possibleWeights(0, 1) = 0; cut(0, 1) = 5; possibleWeights(0, 1) = -3");
    }

    private static void scripts() {
        run(30, "runScript(0, 0) = -2; runScript(4, 0) = -2; runScript(-1, 0) = -2; runScript(1, -1) = -2; runScript(3, -9223372036854775808) = -2");
        run(30, "runScript(1, 99999) = 0; runScript(1, 100000) = -2; runScript(2, 9999999999) = 0; runScript(2, 10000000000) = -2; "
            + "runScript(3, 999999999999999) = 0; runScript(3, 1000000000000000) = -2; runScript(3, 9223372036854775807) = -2; runScript(2, 30000) = 0");
        run(30, "runScript(1, 10001) = -9; runScript(1, 10000) = 0; runScript(1, 10012) = 0; runScript(1, 11200) = 0; runScript(1, 19900) = 0; "
            + "runScript(2, 1000110001) = 1; runScript(2, 1000110100) = 1; runScript(3, 100011000210102) = 2; edgeWeight(0, 1) = -9");
        run(30, "link(0, 1, 5) = 1; runScript(1, 20001) = -9; runScript(1, 20100) = -9; runScript(1, 20002) = 0; runScript(1, 20012) = 0; runScript(1, 21200) = 0; "
            + "runScript(2, 2000120001) = 1; runScript(3, 200011000120001) = -9; edgeWeight(0, 1) = 5; undo() = 0; undo() = -3");
        run(30, PATH + "runScript(1, 30004) = -9; runScript(1, 30400) = -9; runScript(1, 30303) = -9; runScript(1, 30005) = 0; runScript(1, 31212) = 0; "
            + "runScript(1, 30012) = 0; runScript(2, 2010230004) = 1; runScript(2, 1000530405) = -9");
        run(30, PATH + "runScript(1, 40003) = -9; runScript(1, 40303) = -9; runScript(1, 40002) = 0; runScript(1, 40505) = -9; runScript(1, 40305) = 0; "
            + "runScript(1, 40503) = 0; runScript(1, 41212) = 0; runScript(1, 40012) = 0; runScript(2, 2030440002) = -9");
        run(30, PATH + "runScript(1, 50003) = -9; runScript(1, 50001) = -9; runScript(1, 50301) = -9; runScript(1, 50103) = 0; runScript(1, 50002) = 0; "
            + "runScript(1, 50101) = 0; runScript(1, 50505) = 0; runScript(1, 50005) = 0; runScript(1, 51212) = 0; runScript(1, 50100) = 0; "
            + "runScript(1, 50300) = 0; runScript(2, 2030450201) = -9; runScript(2, 2030450103) = 1");
        // The new edge has the weight 1: 0 - 1 - 2 - 3 by 1, 1 and 1, or by 1, 1 and 2.
        run(30, "link(0, 1, 1) = 1; link(1, 2, 1) = 2; runScript(2, 1020340001) = -9; runScript(2, 1020340002) = 1; link(2, 3, 2) = 3; "
            + "runScript(1, 40002) = -9; runScript(3, 202031020340001) = -9; edgeWeight(2, 3) = 2");
        run(30, "runScript(1, 0) = 0; runScript(1, 60000) = 0; runScript(1, 70101) = 0; runScript(2, 3000060000) = 1; runScript(3, 300003000030000) = -9; "
            + "runScript(3, 300003000000000) = 2; runScript(3, 0) = 0");
        run(30, "text(F020101) = 7; load() = 0; runScript(1, 10001) = -9; runScript(1, 10002) = 0; runScript(1, 30202) = 0; runScript(1, 30101) = -9");
    }

    private static void randomChanges() {
        run(31, "randomChanges(1, 0) = -2; randomChanges(1, 61) = -2; randomChanges(1, -1) = -2; randomChanges(1, 2147483647) = -2");
        // With one vertex nothing can happen, so that every diameter is 0.
        run(31, "text(F0101) = 5; load() = 0; randomChanges(-9223372036854775808, 60) = 0; randomChanges(9223372036854775807, 1) = 0");
        for (long seed = -40; seed < 40; seed++) {
            int steps = (int) (1 + (seed + 40) % 60);
            String call = "randomChanges(" + seed * 123456789123L + ", " + steps + ") = ";
            run(31, call + changesByCalls(seed * 123456789123L, steps) + "; undo() = -3; edgeWeight(0, 1) = -9; " + call
                + changesByCalls(seed * 123456789123L, steps));
        }
    }

    /** The same changes by link, cut and setEdgeWeight, which the document says they are. */
    private static int changesByCalls(long seed, int steps) {
        WeightedForest forest = new WeightedForest();
        long x = seed;
        int sum = 0;
        for (int i = 0; i < steps; i++) {
            x = x * 6364136223846793005L + 1442695040888963407L;
            int r = (int) (x >>> 33);
            int u = r % 12;
            int v = r / 16 % 12;
            int w = r / 256 % 99 + 1;
            if (forest.edgeWeight(u, v) == -9) {
                forest.link(u, v, w);
            } else if (w % 2 == 0) {
                forest.cut(u, v);
            } else {
                forest.setEdgeWeight(u, v, w);
            }
            sum += forest.diameter(0);
        }
        return sum;
    }

    private static void slots() {
        run(32, "save(-1) = -1; save(2) = -1; save(0) = 0; link(0, 1, 5) = 1; save(1) = 1; undo() = 0; restore(1) = 1; edgeWeight(0, 1) = 5");
        run(32, "link(0, 1, 5) = 1; save(0) = 1; link(1, 2, 5) = 2; save(0) = 2; cut(0, 1) = 5; restore(0) = 2; edgeWeight(0, 1) = 5; restore(1) = -3");
        run(32, "link(0, 1, 5) = 1; save(0) = 1; undo() = 0; undo() = -3; setVertexWeight(3, 8) = 1; save(1) = 0; restore(0) = 1; vertexWeight(3) = 1; "
            + "restore(1) = 0; vertexWeight(3) = 8");
        run(33, "restore(-1) = -1; restore(2) = -1; restore(0) = -3; restore(1) = -3; link(0, 1, 5) = 1; restore(0) = -3; undo() = 0");
        run(33, "save(0) = 0; link(0, 1, 5) = 1; restore(0) = 0; undo() = -3; edgeWeight(0, 1) = -9; link(0, 1, 6) = 1; restore(0) = 0; edgeWeight(0, 1) = -9");
        run(33, "save(0) = 0; link(0, 1, 5) = 1; restore(-1) = -1; restore(1) = -3; undo() = 0; observe(0, 0, 0) = 1; append(70) = 1; restore(0) = 0; "
            + "observe(0, 0, 0) = 2; clearText() = 1; setVertexWeight(0, 5) = 1; undo() = 0");
        run(33, "text(F020305ab07) = 11; load() = 1; save(1) = 1; setVertexWeight(1, 9) = 5; cut(0, 1) = 7; restore(1) = 1; vertexWeight(1) = 5; "
            + "edgeWeight(0, 1) = 7; vertexWeight(2) = -1; load() = 1; restore(1) = -3");
    }

    private static void examples() {
        run(9, "link(0, 1, 5) = 1; link(1, 2, 3) = 2; link(1, 3, 4) = 3; distance(2, 3) = 7; diameter(0) = 9; diameterEnd(0, 0) = 0; "
            + "diameterEnd(0, 1) = 3; centre(3) = 1; meeting(0, 2, 3) = 1; link(0, 3, 1) = -3; balancedCut(2) = 1");
        run(23, "link(4, 5, 1) = 1; link(5, 6, 1) = 2; link(6, 7, 1) = 3; link(7, 8, 1) = 4; rounds(4) = 2; removalRound(4) = 1; "
            + "removalRound(5) = -9; removalRound(6) = 1; survivor(4) = 5");
        run(29, "link(0, 1, 5) = 1; observe(1, 0, 7) = 1; possibleWeights(0, 1) = 1; observe(0, 2, 1) = 2; possibleWeights(0, 1) = 0; "
            + "expectedReach(0, 5) = 150000000000; expectedReach(2, 5) = 100000000000");
        run(4, "text(F0305ab00) = 9");
        run(4, "append(70) = 1; append(48) = 2; append(50) = 3; append(48) = 4; append(51) = 5; append(48) = 6; append(53) = 7; "
            + "append(97) = 8; append(98) = 9; append(48) = 10; append(48) = 11; errorPosition() = 10; load() = -3");
        run(14, "distance(0, 1) = -9; pathVertex(0, 0, 0) = 0; cut(0, 1) = -3; setEdgeWeight(0, 12, 0) = -1; median(4) = 4; rounds(4) = 0; "
            + "removalRound(4) = -9");
        due(1, "NO_SUCH_INDEX", WeightedForest.NO_SUCH_INDEX, -1);
        due(1, "BAD_VALUE", WeightedForest.BAD_VALUE, -2);
        due(1, "NOT_POSSIBLE", WeightedForest.NOT_POSSIBLE, -3);
        due(1, "FULL", WeightedForest.FULL, -4);
        due(1, "NONE", WeightedForest.NONE, -9);
    }

    private static void run(int promise, String text) {
        tested.add(promise);
        run("promise " + promise, text);
    }

    private static void due(int promise, String call, long got, long want) {
        tested.add(promise);
        due("promise " + promise, call, got, want);
    }
}
