/** Promises 21, 22 and 25 to 29: where the parts lie, and the lengths of the marker. */
final class PackingTests {
    private PackingTests() {
    }

    static void runAll(Tests tests) {
        tests.run("promises 21 and 22: their errors", PackingTests::placeErrors);
        tests.run("promises 21 and 22: shelves by index", PackingTests::shelves);
        tests.run("promises 21 and 22: the first of the shelves", PackingTests::firstShelf);
        tests.run("promises 21 and 22: shelves and fold parts", PackingTests::foldShelves);
        tests.run("promises 21 and 22: first free", PackingTests::firstFree);
        tests.run("promises 21 and 22: first free fills holes", PackingTests::firstFreeHole);
        tests.run("promises 21 and 22: first free and fold parts", PackingTests::foldFirstFree);
        tests.run("promises 16, 21, 22: the orders", PackingTests::orders);
        tests.run("promises 16, 21, 22: ties by index", PackingTests::ties);
        tests.run("promise 25: markerLength", PackingTests::length);
        tests.run("promise 26: wastedArea", PackingTests::waste);
        tests.run("promise 27: markerLengthWith", PackingTests::lengthWith);
        tests.run("promises 28 and 29: bestLength and bestPacking", PackingTests::best);
        tests.run("promises 27 to 29: each packing is once the best", PackingTests::eachBest);
        tests.run("promises 28 and 29: a tie, no parts, no layout", PackingTests::bestEdges);
    }

    private static void places(Tests t, GarmentMarker x, int[][] due) {
        t.due("partCount()", x.partCount(), due.length);
        for (int part = 0; part < due.length; part++) {
            t.due("partAlong(" + part + ")", x.partAlong(part), due[part][0]);
            t.due("partAcross(" + part + ")", x.partAcross(part), due[part][1]);
        }
    }

    private static void placeErrors(Tests t) {
        GarmentMarker x = new GarmentMarker();
        int[] wrong = {-1, 2, Integer.MIN_VALUE, Integer.MAX_VALUE};
        t.due("partAlong(0) without parts", x.partAlong(0), -1004);
        t.due("partAcross(0) without parts", x.partAcross(0), -1004);
        x.definePiece(0, 12, 2, 1, 0, 2);
        for (int part : wrong) {
            t.due("partAlong(" + part + ")", x.partAlong(part), -1004);
            t.due("partAcross(" + part + ")", x.partAcross(part), -1004);
        }
        t.due("partAlong(1)", x.partAlong(1), 2);
        t.due("partAcross(1)", x.partAcross(1), 0);
        x.setRatio(0, 0);
        x.setRatio(1, 1);
        for (int part : wrong) {
            t.due("partAlong(" + part + ") no layout", x.partAlong(part), -1004);
            t.due("partAcross(" + part + ") no layout", x.partAcross(part), -1004);
        }
        t.due("partAlong(1) no layout", x.partAlong(1), -1007);
        t.due("partAcross(1) no layout", x.partAcross(1), -1007);
    }

    private static void shelves(Tests t) {
        GarmentMarker x = new GarmentMarker();
        x.setClothWidth(10);
        x.definePiece(0, 6, 4, 0, 0, 1);
        x.definePiece(1, 5, 3, 0, 0, 1);
        x.definePiece(2, 4, 4, 0, 0, 1);
        x.definePiece(3, 5, 3, 0, 0, 1);
        x.definePiece(4, 1, 5, 0, 0, 1);
        places(t, x, new int[][] {{0, 0}, {4, 0}, {0, 6}, {4, 5}, {7, 0}});
        t.due("markerLength()", x.markerLength(), 12);
    }

    private static void firstShelf(Tests t) {
        GarmentMarker x = new GarmentMarker();
        x.definePiece(0, 9, 5, 0, 0, 1);
        x.definePiece(1, 9, 3, 0, 0, 1);
        x.definePiece(2, 4, 2, 0, 0, 1);
        x.definePiece(3, 2, 1, 0, 0, 1);
        x.definePiece(4, 1, 6, 0, 0, 1);
        x.definePiece(5, 1, 4, 0, 0, 2);
        places(t, x, new int[][] {{0, 0}, {5, 0}, {8, 0}, {0, 9}, {10, 0}, {0, 11}, {10, 1}});
        t.due("markerLength()", x.markerLength(), 16);
    }

    private static void foldShelves(Tests t) {
        GarmentMarker x = new GarmentMarker();
        x.setFolded(true);
        x.definePiece(0, 4, 5, 0, 0, 1);
        x.definePiece(1, 4, 3, 0, 0, 2);
        x.definePiece(2, 2, 2, 0, 0, 1);
        x.definePiece(3, 3, 2, 0, 0, 2);
        places(t, x, new int[][] {{0, 0}, {0, 2}, {5, 0}, {5, 1}});
        t.due("markerLength()", x.markerLength(), 7);
        x.setPacking(0, 2);
        places(t, x, new int[][] {{5, 0}, {0, 0}, {10, 0}, {3, 0}});
        t.due("markerLength() across first", x.markerLength(), 12);
    }

    private static void firstFree(Tests t) {
        GarmentMarker x = new GarmentMarker();
        x.setPacking(1, 0);
        x.setClothWidth(10);
        x.definePiece(0, 4, 2, 0, 0, 1);
        x.definePiece(1, 6, 5, 0, 0, 1);
        x.definePiece(2, 3, 4, 0, 0, 1);
        x.definePiece(3, 1, 1, 0, 0, 1);
        x.definePiece(4, 5, 2, 0, 0, 1);
        places(t, x, new int[][] {{0, 0}, {0, 4}, {2, 0}, {2, 3}, {5, 3}});
        t.due("markerLength()", x.markerLength(), 7);
    }

    private static void firstFreeHole(Tests t) {
        GarmentMarker x = new GarmentMarker();
        x.setPacking(1, 0);
        x.setClothWidth(9);
        x.definePiece(0, 3, 6, 0, 0, 1);
        x.definePiece(1, 3, 2, 0, 0, 1);
        x.definePiece(2, 3, 4, 0, 0, 1);
        x.definePiece(3, 6, 3, 0, 0, 1);
        x.definePiece(4, 3, 2, 0, 0, 2);
        places(t, x, new int[][] {{0, 0}, {0, 3}, {0, 6}, {4, 3}, {2, 3}, {6, 0}});
        t.due("markerLength()", x.markerLength(), 8);
    }

    private static void foldFirstFree(Tests t) {
        GarmentMarker x = new GarmentMarker();
        x.setFolded(true);
        x.setPacking(1, 0);
        x.definePiece(0, 2, 3, 0, 0, 2);
        x.definePiece(1, 7, 2, 0, 0, 1);
        x.definePiece(2, 4, 1, 0, 0, 2);
        x.definePiece(3, 1, 1, 0, 0, 1);
        places(t, x, new int[][] {{0, 0}, {3, 0}, {0, 2}, {5, 0}});
        t.due("markerLength()", x.markerLength(), 6);
        x.definePiece(0, 1, 3, 0, 0, 2);
        x.definePiece(1, 2, 2, 0, 0, 1);
        places(t, x, new int[][] {{0, 0}, {3, 0}, {0, 1}, {5, 0}});
    }

    /** Four parts; each order begins with another one. */
    private static GarmentMarker fourFirsts() {
        GarmentMarker x = new GarmentMarker();
        x.definePiece(0, 4, 4, 0, 0, 1);
        x.definePiece(1, 1, 9, 0, 0, 1);
        x.definePiece(2, 11, 1, 0, 0, 1);
        x.definePiece(3, 5, 5, 0, 0, 1);
        return x;
    }

    private static void orders(Tests t) {
        GarmentMarker x = fourFirsts();
        places(t, x, new int[][] {{0, 0}, {4, 0}, {4, 1}, {13, 0}});
        x.setPacking(0, 1);
        places(t, x, new int[][] {{0, 6}, {0, 0}, {9, 0}, {0, 1}});
        x.setPacking(0, 2);
        places(t, x, new int[][] {{1, 5}, {6, 0}, {0, 0}, {1, 0}});
        x.setPacking(0, 3);
        places(t, x, new int[][] {{0, 5}, {6, 0}, {5, 0}, {0, 0}});
        x.setPacking(1, 3);
        places(t, x, new int[][] {{0, 5}, {0, 11}, {5, 0}, {0, 0}});
        x.setPacking(1, 2);
        places(t, x, new int[][] {{1, 5}, {0, 11}, {0, 0}, {1, 0}});
        x.setPacking(1, 1);
        places(t, x, new int[][] {{0, 6}, {0, 0}, {5, 1}, {0, 1}});
    }

    private static void ties(Tests t) {
        GarmentMarker x = new GarmentMarker();
        x.setClothWidth(24);
        x.definePiece(0, 2, 6, 0, 0, 2);
        x.definePiece(1, 6, 2, 0, 0, 1);
        x.definePiece(2, 3, 4, 0, 0, 2);
        for (int method = 0; method < 2; method++) {
            x.setPacking(method, 3);
            places(t, x, new int[][] {{0, 0}, {0, 2}, {0, 4}, {0, 10}, {0, 13}});
            x.setPacking(method, 1);
            places(t, x, new int[][] {{0, 0}, {0, 2}, {0, 10}, {0, 4}, {0, 7}});
        }
        x.setPacking(1, 2);
        places(t, x, new int[][] {{0, 12}, {0, 14}, {0, 0}, {0, 6}, {0, 9}});
    }

    private static void length(Tests t) {
        GarmentMarker x = new GarmentMarker();
        t.due("without pieces", x.markerLength(), 0);
        x.definePiece(0, 12, 5, 1, 2, 2);
        t.due("two parts", x.markerLength(), 10);
        x.setRatio(1, 1);
        t.due("a part too wide", x.markerLength(), -1007);
        x.setClothWidth(13);
        t.due("just wide enough", x.markerLength(), 24);
        x.setPacking(1, 1);
        t.due("first free, the longer first", x.markerLength(), 24);
        x.setRatio(0, 0);
        x.setRatio(1, 0);
        t.due("without garments", x.markerLength(), 0);
        for (int piece = 0; piece < 6; piece++) {
            x.definePiece(piece, 12, 12, 3, 3, 2);
        }
        x.setClothWidth(18);
        x.setRatio(0, 2);
        x.setRatio(1, 2);
        x.setRatio(2, 2);
        for (int method = 0; method < 2; method++) {
            x.setPacking(method, 0);
            t.due("the longest marker by method " + method, x.markerLength(), 24 * (12 + 15 + 18));
            t.due("its last part", x.partAlong(71), 24 * (12 + 15) + 23 * 18);
        }
    }

    private static void waste(Tests t) {
        GarmentMarker x = new GarmentMarker();
        t.due("without parts", x.wastedArea(), 0);
        x.definePiece(0, 6, 8, 0, 0, 2);
        t.due("nothing wasted", x.wastedArea(), 0);
        x.definePiece(1, 5, 4, 1, 0, 1);
        t.due("three parts", x.wastedArea(), 12 * 12 - 96 - 20);
        x.setFolded(true);
        t.due("folded", x.wastedArea(), 6 * 12 - 48 - 12);
        x.setClothWidth(15);
        t.due("folded, odd width", x.wastedArea(), 7 * 12 - 48 - 12);
        x.setClothWidth(11);
        t.due("no layout", x.wastedArea(), -1007);
    }

    private static void lengthWith(Tests t) {
        GarmentMarker x = fourFirsts();
        int[][] due = {{18, 10, 15, 15}, {10, 9, 9, 9}};
        for (int method = 0; method < 2; method++) {
            for (int order = 0; order < 4; order++) {
                t.due("markerLengthWith(" + method + ", " + order + ")",
                        x.markerLengthWith(method, order), due[method][order]);
            }
        }
        t.due("markerLength() as before", x.markerLength(), 18);
        t.due("setPacking(1, 1) as before", x.setPacking(1, 1), 0);
        int[] wrong = {-1, 4, Integer.MIN_VALUE, Integer.MAX_VALUE};
        for (int value : wrong) {
            t.due("method " + value, x.markerLengthWith(value, 0), -1005);
            t.due("order " + value, x.markerLengthWith(0, value), -1005);
        }
        t.due("method 2", x.markerLengthWith(2, 0), -1005);
        x.setClothWidth(10);
        t.due("no layout", x.markerLengthWith(1, 2), -1007);
        t.due("no layout, method 2", x.markerLengthWith(2, 0), -1005);
        t.due("no layout, order 4", x.markerLengthWith(0, 4), -1005);
        t.due("without parts", new GarmentMarker().markerLengthWith(1, 3), 0);
    }

    private static void best(Tests t) {
        GarmentMarker x = fourFirsts();
        t.due("bestLength()", x.bestLength(), 9);
        t.due("bestPacking()", x.bestPacking(), 11);
        x.setPacking(0, 3);
        t.due("bestLength() whatever is set", x.bestLength(), 9);
        t.due("bestPacking() whatever is set", x.bestPacking(), 11);
        t.due("setPacking(0, 0) as before", x.setPacking(0, 0), 3);
        x.removePiece(2);
        t.due("bestLength() by shelves", x.bestLength(), 9);
        t.due("bestPacking() by shelves", x.bestPacking(), 1);
    }

    /** Widths and lengths of the pieces, and the marker lengths by the eight packings. */
    private static final int[][][] EACH_BEST = {
        {{4, 6, 7, 3, 6, 6, 6, 4}, {12, 13, 15, 13, 13, 13, 13, 13}},
        {{7, 4, 6, 4, 6, 3, 2, 6}, {14, 10, 14, 14, 13, 11, 13, 13}},
        {{5, 6, 6, 6, 4, 2, 6, 5, 3, 6}, {19, 14, 12, 17, 14, 13, 14, 13}},
        {{6, 5, 7, 2, 4, 6, 6, 6}, {13, 13, 13, 12, 13, 13, 13, 13}},
        {{6, 1, 5, 5, 2, 6, 7, 4}, {12, 11, 16, 15, 9, 10, 11, 10}},
        {{7, 2, 5, 1, 1, 4}, {6, 5, 6, 6, 5, 4, 5, 5}},
        {{5, 6, 6, 4, 3, 5, 6, 2}, {11, 10, 10, 11, 11, 11, 9, 11}},
        {{4, 5, 7, 2, 7, 4, 4, 5}, {14, 11, 11, 11, 10, 11, 10, 9}}};

    private static void eachBest(Tests t) {
        for (int best = 0; best < 8; best++) {
            int[] sides = EACH_BEST[best][0];
            int[] lengths = EACH_BEST[best][1];
            GarmentMarker x = new GarmentMarker();
            for (int piece = 0; piece < sides.length / 2; piece++) {
                x.definePiece(piece, sides[2 * piece], sides[2 * piece + 1], 0, 0, 1);
            }
            String marker = "marker " + best + ": ";
            for (int i = 0; i < 8; i++) {
                t.due(marker + "markerLengthWith(" + i / 4 + ", " + i % 4 + ")",
                        x.markerLengthWith(i / 4, i % 4), lengths[i]);
                x.setPacking(i / 4, i % 4);
                t.due(marker + "markerLength()", x.markerLength(), lengths[i]);
                t.due(marker + "bestLength()", x.bestLength(), lengths[best]);
                t.due(marker + "bestPacking()", x.bestPacking(), best / 4 * 10 + best % 4);
            }
        }
    }

    private static void bestEdges(Tests t) {
        GarmentMarker x = new GarmentMarker();
        x.setPacking(1, 3);
        t.due("bestLength() without parts", x.bestLength(), 0);
        t.due("bestPacking() without parts", x.bestPacking(), 0);
        x.definePiece(0, 7, 2, 0, 0, 2);
        t.due("bestLength() all equal", x.bestLength(), 4);
        t.due("bestPacking() all equal", x.bestPacking(), 0);
        x.setClothWidth(6);
        t.due("bestLength() no layout", x.bestLength(), -1007);
        t.due("bestPacking() no layout", x.bestPacking(), -1007);
    }
}
