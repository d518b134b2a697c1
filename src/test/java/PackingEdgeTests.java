/** The sentences of the document's description about packing, each with a test. */
final class PackingEdgeTests {
    private static final int ALONG = 1, ACROSS = 2, AREA = 3;

    private PackingEdgeTests() {
    }

    static void runAll(Tests tests) {
        runOrders(tests);
        runShelves(tests);
        runFirstFree(tests);
        runLengths(tests);
    }

    private static void runOrders(Tests tests) {
        tests.run("orders: BY_INDEX is ascending part index", PackingEdgeTests::byIndex);
        tests.run("orders: BY_ALONG is descending along extent", PackingEdgeTests::byAlong);
        tests.run("orders: BY_ACROSS is descending across extent", PackingEdgeTests::byAcross);
        tests.run("orders: BY_AREA is descending product", PackingEdgeTests::byArea);
        tests.run("orders: ties BY_ALONG by ascending index", PackingEdgeTests::tiesAlong);
        tests.run("orders: ties BY_ACROSS by ascending index", PackingEdgeTests::tiesAcross);
        tests.run("orders: ties BY_AREA by ascending index", PackingEdgeTests::tiesArea);
        tests.run("orders: extents as placed, turned", PackingEdgeTests::turnedOrder);
        tests.run("orders: extents as placed, of fold parts", PackingEdgeTests::foldOrder);
        tests.run("orders: ties of all 72 parts", PackingEdgeTests::allTied);
    }

    private static void runShelves(Tests tests) {
        tests.run("shelves: as long as the shelf is deep, and longer", PackingEdgeTests::depth);
        tests.run("shelves: the strip just filled, and overfilled", PackingEdgeTests::sum);
        tests.run("shelves: the folded strip just filled", PackingEdgeTests::foldedSum);
        tests.run("shelves: the depth stays the first part's", PackingEdgeTests::depthStays);
        tests.run("shelves: the first opened that holds the part", PackingEdgeTests::firstOpened);
        tests.run("shelves: beside the part placed there last", PackingEdgeTests::beside);
        tests.run("shelves: each starts where the one before ends", PackingEdgeTests::starts);
        tests.run("shelves: a fold part always opens a shelf", PackingEdgeTests::foldOpens);
        tests.run("shelves: others go into a fold part's shelf", PackingEdgeTests::foldShared);
    }

    private static void runFirstFree(Tests tests) {
        tests.run("first free: the smallest along position", PackingEdgeTests::leastAlong);
        tests.run("first free: then the smallest across position", PackingEdgeTests::leastAcross);
        tests.run("first free: up to the strip's edge, not over it", PackingEdgeTests::edge);
        tests.run("first free: each position across", PackingEdgeTests::eachAcross);
        tests.run("first free: each position along", PackingEdgeTests::eachAlong);
        tests.run("first free: a hole just as wide, and narrower", PackingEdgeTests::holeWidth);
        tests.run("first free: a hole just as long, and shorter", PackingEdgeTests::holeLength);
        tests.run("first free: beside parts that end later", PackingEdgeTests::between);
        tests.run("first free: a fold part at across 0 alone", PackingEdgeTests::foldAtZero);
        tests.run("first free: a fold part in a hole at across 0", PackingEdgeTests::foldInHole);
        tests.run("first free: the strip is unlimited along", PackingEdgeTests::unlimited);
    }

    private static void runLengths(Tests tests) {
        tests.run("length: the greatest end, not the last part's", PackingEdgeTests::greatestEnd);
        tests.run("length: one part", PackingEdgeTests::onePart);
        tests.run("promise 26: the strip's area less all parts'", PackingEdgeTests::waste);
        tests.run("promise 27: each packing, the current one stays", PackingEdgeTests::lengthWith);
        tests.run("promises 28, 29: the smallest number of equals", PackingEdgeTests::bestOfEquals);
        tests.run("promises 28, 29: 13 alone is the best", PackingEdgeTests::lastIsBest);
        tests.run("promise 16: the previous packing as a number", PackingEdgeTests::previous);
    }

    /** Pieces of one copy that do not grow: their widths and lengths. */
    private static GarmentMarker pieces(int cloth, int... sides) {
        GarmentMarker x = new GarmentMarker();
        x.setClothWidth(cloth);
        for (int piece = 0; piece < sides.length / 2; piece++) {
            x.definePiece(piece, sides[2 * piece], sides[2 * piece + 1], 0, 0, 1);
        }
        return x;
    }

    private static GarmentMarker firstFreePieces(int cloth, int... sides) {
        GarmentMarker x = pieces(cloth, sides);
        x.setPacking(1, 0);
        return x;
    }

    /** The along and the across position of each part, by turns. */
    private static void places(Tests t, GarmentMarker x, int... due) {
        t.due("partCount()", x.partCount(), due.length / 2);
        for (int part = 0; part < due.length / 2; part++) {
            t.due("partAlong(" + part + ")", x.partAlong(part), due[2 * part]);
            t.due("partAcross(" + part + ")", x.partAcross(part), due[2 * part + 1]);
        }
    }

    /** On wide cloth all parts lie in one row, so their places across tell the order. */
    private static void row(Tests t, GarmentMarker x, int method, int order, int... across) {
        x.setPacking(method, order);
        for (int part = 0; part < across.length; part++) {
            t.due("method " + method + ", partAlong(" + part + ")", x.partAlong(part), 0);
            t.due("method " + method + ", partAcross(" + part + ")", x.partAcross(part),
                    across[part]);
        }
    }

    private static void byIndex(Tests t) {
        GarmentMarker x = pieces(24, 3, 9, 2, 5, 5, 1, 4, 4);
        row(t, x, 0, 0, 0, 3, 5, 10);
        row(t, x, 1, 0, 0, 3, 5, 10);
    }

    private static void byAlong(Tests t) {
        GarmentMarker x = pieces(24, 3, 7, 2, 5, 5, 9, 4, 6);
        row(t, x, 0, ALONG, 5, 12, 0, 8);
        row(t, x, 1, ALONG, 5, 12, 0, 8);
    }

    private static void byAcross(Tests t) {
        GarmentMarker x = pieces(24, 3, 8, 2, 8, 5, 8, 4, 8);
        row(t, x, 0, ACROSS, 9, 12, 0, 5);
        row(t, x, 1, ACROSS, 9, 12, 0, 5);
    }

    /** Areas 21, 20, 22 and 18: neither the along nor the across extents are in that order. */
    private static void byArea(Tests t) {
        GarmentMarker x = pieces(24, 3, 7, 5, 4, 2, 11, 6, 3);
        row(t, x, 0, AREA, 2, 5, 0, 10);
        row(t, x, 1, AREA, 2, 5, 0, 10);
    }

    private static void tiesAlong(Tests t) {
        GarmentMarker x = pieces(24, 3, 5, 2, 5, 6, 7, 4, 5, 1, 7);
        row(t, x, 0, ALONG, 7, 10, 0, 12, 6);
        row(t, x, 1, ALONG, 7, 10, 0, 12, 6);
    }

    private static void tiesAcross(Tests t) {
        GarmentMarker x = pieces(24, 3, 7, 3, 7, 4, 7, 3, 7, 4, 7);
        row(t, x, 0, ACROSS, 8, 11, 0, 14, 4);
        GarmentMarker y = pieces(24, 3, 1, 3, 9, 4, 2, 3, 5, 4, 8);
        row(t, y, 1, ACROSS, 8, 11, 0, 14, 4);
    }

    private static void tiesArea(Tests t) {
        GarmentMarker x = pieces(24, 2, 6, 3, 4, 1, 12, 4, 3, 6, 2);
        row(t, x, 1, AREA, 0, 2, 5, 6, 10);
        GarmentMarker y = pieces(24, 3, 4, 3, 4, 4, 4, 3, 4, 4, 4);
        row(t, y, 0, AREA, 8, 11, 0, 14, 4);
    }

    /** Turned, the parts are 9 by 2, 8 by 3 and 7 by 4 (across by along). */
    private static void turnedOrder(Tests t) {
        GarmentMarker x = pieces(24, 2, 9, 3, 8, 4, 7);
        x.setRotation(true);
        row(t, x, 1, ALONG, 15, 7, 0);
        row(t, x, 1, ACROSS, 0, 9, 17);
        row(t, x, 1, AREA, 15, 7, 0);
    }

    /** A fold part counts with half its width: 5 by 3 is 15, less than 4 by 4. */
    private static void foldOrder(Tests t) {
        GarmentMarker x = pieces(24, 10, 3);
        x.definePiece(1, 4, 4, 0, 0, 2);
        x.definePiece(2, 6, 2, 0, 0, 2);
        x.setFolded(true);
        x.setPacking(0, AREA);
        places(t, x, 4, 0, 0, 0, 0, 4);
        x.setPacking(0, ACROSS);
        places(t, x, 2, 0, 5, 0, 0, 0);
        x.definePiece(1, 3, 5, 0, 0, 2);
        x.setPacking(0, AREA);
        places(t, x, 0, 0, 3, 0, 0, 5);
    }

    private static void allTied(Tests t) {
        GarmentMarker x = new GarmentMarker();
        x.setClothWidth(24);
        for (int piece = 0; piece < 6; piece++) {
            x.definePiece(piece, 3, 2, 0, 0, 2);
        }
        for (int size = 0; size < 3; size++) {
            x.setRatio(size, 2);
        }
        for (int i = 1; i < 8; i += 2) {
            x.setPacking(i / 4, i % 4);
            for (int part = 0; part < 72; part += 7) {
                t.due("partAlong(" + part + ")", x.partAlong(part), part / 8 * 2);
                t.due("partAcross(" + part + ")", x.partAcross(part), part % 8 * 3);
            }
        }
    }

    private static void depth(Tests t) {
        places(t, pieces(12, 4, 5, 4, 5), 0, 0, 0, 4);
        places(t, pieces(12, 4, 5, 4, 4), 0, 0, 0, 4);
        places(t, pieces(12, 4, 5, 4, 6), 0, 0, 5, 0);
    }

    private static void sum(Tests t) {
        places(t, pieces(12, 6, 5, 6, 5), 0, 0, 0, 6);
        places(t, pieces(12, 6, 5, 7, 5), 0, 0, 5, 0);
        places(t, pieces(11, 6, 5, 6, 5), 0, 0, 5, 0);
        places(t, pieces(12, 4, 5, 4, 5, 4, 5), 0, 0, 0, 4, 0, 8);
        places(t, pieces(12, 4, 5, 4, 5, 5, 5), 0, 0, 0, 4, 5, 0);
        places(t, pieces(24, 12, 5, 12, 5, 1, 5), 0, 0, 0, 12, 5, 0);
    }

    private static void foldedSum(Tests t) {
        GarmentMarker x = new GarmentMarker();
        x.setFolded(true);
        x.definePiece(0, 3, 5, 0, 0, 2);
        x.definePiece(1, 4, 5, 0, 0, 2);
        x.setClothWidth(14);
        places(t, x, 0, 0, 0, 3);
        x.setClothWidth(15);
        places(t, x, 0, 0, 0, 3);
        x.setClothWidth(13);
        places(t, x, 0, 0, 5, 0);
    }

    private static void depthStays(Tests t) {
        places(t, pieces(12, 3, 5, 3, 2, 3, 5, 3, 6), 0, 0, 0, 3, 0, 6, 5, 0);
    }

    /** Three shelves, 5, 3 and 6 deep, with 2, 4 and 3 left across. */
    private static void firstOpened(Tests t) {
        places(t, pieces(12, 10, 5, 8, 3, 9, 6, 3, 3), 0, 0, 5, 0, 8, 0, 5, 8);
        places(t, pieces(12, 10, 5, 8, 3, 9, 6, 3, 4), 0, 0, 5, 0, 8, 0, 8, 9);
        places(t, pieces(12, 10, 5, 8, 3, 9, 6, 2, 1), 0, 0, 5, 0, 8, 0, 0, 10);
        places(t, pieces(12, 10, 5, 8, 3, 9, 6, 4, 4), 0, 0, 5, 0, 8, 0, 14, 0);
    }

    private static void beside(Tests t) {
        places(t, pieces(12, 5, 6, 2, 1, 3, 4, 2, 6), 0, 0, 0, 5, 0, 7, 0, 10);
    }

    /** Two parts go into earlier shelves, and the next shelf still starts behind all. */
    private static void starts(Tests t) {
        places(t, pieces(12, 9, 4, 9, 7, 9, 2, 3, 7, 3, 1, 9, 1), 0, 0, 4, 0, 11, 0, 4, 9, 0, 9,
                13, 0);
    }

    private static void foldOpens(Tests t) {
        GarmentMarker x = pieces(24, 2, 5, 2, 5, 2, 3);
        x.setFolded(true);
        places(t, x, 0, 0, 5, 0, 10, 0);
        t.due("markerLength()", x.markerLength(), 13);
        x.definePiece(0, 2, 5, 0, 0, 2);
        places(t, x, 0, 0, 5, 0, 10, 0);
    }

    private static void foldShared(Tests t) {
        GarmentMarker x = pieces(24, 4, 5, 4, 5);
        x.definePiece(2, 10, 5, 0, 0, 2);
        x.definePiece(3, 2, 5, 0, 0, 2);
        x.definePiece(4, 9, 6, 0, 0, 2);
        x.setFolded(true);
        places(t, x, 0, 0, 5, 0, 0, 2, 5, 2, 10, 0);
    }

    private static void leastAlong(Tests t) {
        places(t, firstFreePieces(10, 6, 2, 4, 5, 6, 3, 4, 1), 0, 0, 0, 6, 2, 0, 5, 0);
        places(t, firstFreePieces(10, 6, 5, 4, 2, 4, 3, 4, 1), 0, 0, 0, 6, 2, 6, 5, 0);
    }

    private static void leastAcross(Tests t) {
        places(t, firstFreePieces(12, 3, 2, 3, 4, 3, 2, 3, 4, 3, 1, 3, 1),
                0, 0, 0, 3, 0, 6, 0, 9, 2, 0, 2, 6);
    }

    private static void edge(Tests t) {
        places(t, firstFreePieces(12, 6, 5, 6, 5), 0, 0, 0, 6);
        places(t, firstFreePieces(12, 6, 5, 7, 5), 0, 0, 5, 0);
        places(t, firstFreePieces(24, 12, 5, 12, 4, 1, 1), 0, 0, 0, 12, 4, 12);
        places(t, firstFreePieces(23, 12, 5, 12, 4, 11, 1), 0, 0, 5, 0, 0, 12);
    }

    private static void eachAcross(Tests t) {
        for (int width = 1; width <= 11; width++) {
            places(t, firstFreePieces(12, width, 3, 12 - width, 3), 0, 0, 0, width);
            places(t, firstFreePieces(12, width, 3, 12 - width + 1, 3), 0, 0, 3, 0);
        }
        places(t, firstFreePieces(24, 12, 2, 11, 2, 1, 2, 2, 1), 0, 0, 0, 12, 0, 23, 2, 0);
        places(t, firstFreePieces(24, 12, 2, 11, 2, 2, 2, 1, 1), 0, 0, 0, 12, 2, 0, 0, 23);
    }

    private static void eachAlong(Tests t) {
        for (int length = 1; length <= 12; length++) {
            places(t, firstFreePieces(12, 1, length, 12, 1), 0, 0, length, 0);
            places(t, firstFreePieces(12, 11, length, 2, 1, 1, 12), 0, 0, length, 0, 0, 11);
        }
    }

    /** A hole 4 wide between two long parts. */
    private static void holeWidth(Tests t) {
        places(t, firstFreePieces(12, 4, 6, 4, 2, 4, 6, 4, 1), 0, 0, 0, 4, 0, 8, 2, 4);
        places(t, firstFreePieces(12, 4, 6, 4, 2, 4, 6, 5, 1), 0, 0, 0, 4, 0, 8, 6, 0);
        places(t, firstFreePieces(12, 4, 6, 4, 2, 4, 6, 3, 1), 0, 0, 0, 4, 0, 8, 2, 4);
    }

    /** A hole 4 long, from 2 to 6 at the strip's far edge, under a part as wide as the strip. */
    private static void holeLength(Tests t) {
        places(t, firstFreePieces(12, 8, 6, 4, 2, 12, 1, 4, 4), 0, 0, 0, 8, 6, 0, 2, 8);
        places(t, firstFreePieces(12, 8, 6, 4, 2, 12, 1, 4, 5), 0, 0, 0, 8, 6, 0, 7, 0);
        places(t, firstFreePieces(12, 8, 6, 4, 2, 12, 1, 4, 3), 0, 0, 0, 8, 6, 0, 2, 8);
    }

    /** The last part goes between others that end later than where it starts. */
    private static void between(Tests t) {
        places(t, firstFreePieces(10, 2, 3, 5, 1, 3, 3, 3, 1, 5, 2), 0, 0, 0, 2, 0, 7, 1, 2, 2, 2);
        places(t, firstFreePieces(10, 4, 2, 6, 3, 2, 2, 1, 4, 1, 1, 3, 1),
                0, 0, 0, 4, 2, 0, 2, 2, 2, 3, 3, 3);
    }

    private static void foldAtZero(Tests t) {
        GarmentMarker x = new GarmentMarker();
        x.definePiece(0, 2, 4, 0, 0, 2);
        x.definePiece(1, 2, 3, 0, 0, 1);
        x.definePiece(2, 1, 1, 0, 0, 1);
        x.definePiece(3, 2, 2, 0, 0, 2);
        x.setFolded(true);
        x.setPacking(1, 0);
        places(t, x, 0, 0, 4, 0, 7, 0, 0, 2);
    }

    /** The hole at across 0 is from 2 to 5, under the third part. */
    private static void foldInHole(Tests t) {
        GarmentMarker x = new GarmentMarker();
        x.definePiece(0, 3, 2, 0, 0, 2);
        x.definePiece(1, 3, 5, 0, 0, 2);
        x.definePiece(2, 6, 1, 0, 0, 2);
        x.definePiece(3, 6, 3, 0, 0, 1);
        x.definePiece(4, 2, 1, 0, 0, 1);
        x.setFolded(true);
        x.setPacking(1, 0);
        places(t, x, 0, 0, 0, 3, 5, 0, 2, 0, 6, 0);
        x.definePiece(3, 7, 3, 0, 0, 1);
        places(t, x, 0, 0, 0, 3, 5, 0, 6, 0, 2, 0);
        x.definePiece(3, 6, 4, 0, 0, 1);
        places(t, x, 0, 0, 0, 3, 5, 0, 6, 0, 2, 0);
    }

    private static void unlimited(Tests t) {
        GarmentMarker x = new GarmentMarker();
        x.setClothWidth(18);
        for (int piece = 0; piece < 6; piece++) {
            x.definePiece(piece, 12, 12, 3, 3, 2);
        }
        for (int size = 0; size < 3; size++) {
            x.setRatio(size, 2);
        }
        for (int i = 0; i < 8; i++) {
            t.due("markerLengthWith", x.markerLengthWith(i / 4, i % 4), 24 * (12 + 15 + 18));
        }
        t.due("wastedArea()", x.wastedArea(), 24 * (6 * 12 + 3 * 15));
        x.setPacking(1, 1);
        t.due("partAlong(0), the last placed but 23", x.partAlong(0), 24 * (18 + 15));
        t.due("partAlong(23), the last placed", x.partAlong(23), 24 * (18 + 15) + 23 * 12);
    }

    private static void greatestEnd(Tests t) {
        t.due("first free, the first", firstFreePieces(12, 6, 9, 6, 3, 6, 4).markerLength(), 9);
        t.due("first free, the second", firstFreePieces(12, 6, 3, 6, 9, 6, 4).markerLength(), 9);
        t.due("first free, the last", firstFreePieces(12, 6, 8, 6, 3, 6, 6).markerLength(), 9);
        t.due("shelves, the last shelf", pieces(12, 9, 9, 9, 3, 3, 4).markerLength(), 12);
    }

    private static void onePart(Tests t) {
        for (int length = 1; length <= 12; length++) {
            GarmentMarker x = pieces(12, 12, length);
            for (int i = 0; i < 8; i++) {
                t.due("markerLengthWith", x.markerLengthWith(i / 4, i % 4), length);
            }
            t.due("bestPacking()", x.bestPacking(), 0);
        }
    }

    private static void waste(Tests t) {
        t.due("nothing", pieces(12, 6, 5, 6, 5).wastedArea(), 0);
        t.due("one", pieces(12, 6, 5, 6, 5, 11, 1).wastedArea(), 1);
        GarmentMarker x = pieces(15, 5, 4);
        x.setFolded(true);
        t.due("a fold part, half as wide", x.wastedArea(), 7 * 4 - 3 * 4);
        x.definePiece(0, 5, 4, 0, 0, 2);
        t.due("no fold part", x.wastedArea(), 7 * 4 - 5 * 4);
        x.setRotation(true);
        x.definePiece(0, 5, 7, 0, 0, 2);
        t.due("turned", x.wastedArea(), 0);
    }

    private static void lengthWith(Tests t) {
        for (Start start : new Start[] {Start.NEW, Start.MIDDLE, Start.FULL}) {
            for (int i = 0; i < 8; i++) {
                int method = i / 4;
                int order = i % 4;
                GarmentMarker x = start.make();
                x.setPacking(method, order);
                start.unchanged(t, "markerLengthWith(" + method + ", " + order + ")",
                        y -> y.markerLengthWith(method, order), x.markerLength());
            }
        }
    }

    private static void bestOfEquals(Tests t) {
        GarmentMarker x = pieces(12, 6, 5, 6, 5);
        for (int i = 0; i < 8; i++) {
            x.setPacking(i / 4, i % 4);
            t.due("bestLength()", x.bestLength(), 5);
            t.due("bestPacking()", x.bestPacking(), 0);
        }
        GarmentMarker y = pieces(12, 6, 2, 6, 5, 6, 3);
        t.due("shelves by index", y.markerLength(), 7);
        t.due("bestLength()", y.bestLength(), 5);
        t.due("bestPacking()", y.bestPacking(), 10);
    }

    /** PackingTests has a marker for each of the eight; this is the one for the greatest number. */
    private static void lastIsBest(Tests t) {
        GarmentMarker x = pieces(12, 4, 5, 7, 2, 7, 4, 4, 5);
        t.due("bestLength()", x.bestLength(), 9);
        t.due("bestPacking()", x.bestPacking(), 13);
        t.due("markerLengthWith(1, 2)", x.markerLengthWith(1, 2), 10);
        t.due("setPacking(1, 3)", x.setPacking(1, 3), 0);
        t.due("markerLength()", x.markerLength(), 9);
    }

    private static void previous(Tests t) {
        GarmentMarker x = new GarmentMarker();
        t.due("setPacking of a new object", x.setPacking(0, 0), 0);
        for (int i = 0; i < 64; i++) {
            int first = i / 8;
            int second = i % 8;
            x.setPacking(first / 4, first % 4);
            t.due("the previous packing", x.setPacking(second / 4, second % 4),
                    10 * (first / 4) + first % 4);
        }
    }
}
