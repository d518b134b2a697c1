/** Promises 1 to 5: a new object, and the pieces. */
final class PieceTests {
    private static final int[] NO_PIECES = {-1, 6, Integer.MIN_VALUE, Integer.MAX_VALUE};
    private static final int[] NO_SIZES = {-1, 3, Integer.MIN_VALUE, Integer.MAX_VALUE};

    private PieceTests() {
    }

    static void runAll(Tests tests) {
        tests.run("promise 1: a new object", PieceTests::newObject);
        tests.run("promise 2: definePiece counts and replaces", PieceTests::define);
        tests.run("promise 2: definePiece at its bounds", PieceTests::defineBounds);
        tests.run("promise 2: definePiece keeps the seams", PieceTests::defineKeepsSeams);
        tests.run("promise 3: removePiece", PieceTests::remove);
        tests.run("promise 3: removePiece closes up the seams", PieceTests::removeSeams);
        tests.run("promises 4 and 5: pieceWidth and pieceLength", PieceTests::sides);
    }

    private static void newObject(Tests t) {
        GarmentMarker x = new GarmentMarker();
        for (int piece = 0; piece < 6; piece++) {
            t.due("pieceWidth(" + piece + ", 0)", x.pieceWidth(piece, 0), -1001);
        }
        t.due("seamCount()", x.seamCount(), 0);
        t.due("ratio(0)", x.ratio(0), 1);
        t.due("ratio(1)", x.ratio(1), 0);
        t.due("ratio(2)", x.ratio(2), 0);
        t.due("partCount()", x.partCount(), 0);
        t.due("markerLength()", x.markerLength(), 0);
        t.due("plies()", x.plies(), 0);
        t.due("restore(0)", x.restore(0), -1011);
        t.due("restore(1)", x.restore(1), -1011);
        t.due("setClothWidth(20)", x.setClothWidth(20), 12);
        t.due("setFolded(true)", x.setFolded(true), false);
        t.due("setRotation(true)", x.setRotation(true), false);
        t.due("setPacking(1, 3)", x.setPacking(1, 3), 0);
        for (int size = 0; size < 3; size++) {
            t.due("setOrdered(" + size + ", 5)", x.setOrdered(size, 5), 0);
        }
    }

    private static void define(Tests t) {
        GarmentMarker x = new GarmentMarker();
        t.due("define 5", x.definePiece(5, 1, 2, 0, 0, 1), 1);
        t.due("define 0", x.definePiece(0, 3, 4, 0, 0, 1), 2);
        t.due("define 0 again", x.definePiece(0, 7, 8, 1, 2, 2), 2);
        t.due("pieceWidth(0, 0)", x.pieceWidth(0, 0), 7);
        t.due("pieceLength(0, 1)", x.pieceLength(0, 1), 10);
        t.due("pieceWidth(5, 2)", x.pieceWidth(5, 2), 1);
        t.due("partCount()", x.partCount(), 3);
        for (int piece = 1; piece < 5; piece++) {
            t.due("define " + piece, x.definePiece(piece, 1, 1, 0, 0, 1), 2 + piece);
        }
    }

    private static void defineBounds(Tests t) {
        int[] least = {1, 1, 0, 0, 1};
        int[] most = {12, 12, 3, 3, 2};
        GarmentMarker x = new GarmentMarker();
        for (int piece : NO_PIECES) {
            t.due("define " + piece, x.definePiece(piece, 0, 1, 0, 0, 1), -1001);
        }
        for (int i = 0; i < 5; i++) {
            int[] wrong = {least[i] - 1, most[i] + 1, Integer.MIN_VALUE, Integer.MAX_VALUE};
            for (int value : wrong) {
                int[] a = least.clone();
                a[i] = value;
                t.due("argument " + i + " = " + value,
                        x.definePiece(0, a[0], a[1], a[2], a[3], a[4]), -1005);
            }
        }
        t.due("pieceWidth(0, 0) after errors", x.pieceWidth(0, 0), -1001);
        t.due("least", x.definePiece(0, 1, 1, 0, 0, 1), 1);
        t.due("most", x.definePiece(1, 12, 12, 3, 3, 2), 2);
        t.due("a wrong replacement", x.definePiece(1, 2, 2, 0, 0, 3), -1005);
        t.due("pieceWidth(1, 2)", x.pieceWidth(1, 2), 18);
        t.due("pieceLength(1, 2)", x.pieceLength(1, 2), 18);
        t.due("partCount()", x.partCount(), 3);
    }

    private static void defineKeepsSeams(Tests t) {
        GarmentMarker x = new GarmentMarker();
        x.definePiece(0, 4, 6, 0, 0, 1);
        x.definePiece(1, 4, 6, 0, 0, 1);
        x.addSeam(0, 0, 1, 0, 0);
        t.due("seamDifference(0, 0)", x.seamDifference(0, 0), 0);
        x.definePiece(0, 9, 6, 0, 0, 1);
        t.due("seamCount()", x.seamCount(), 1);
        t.due("seamDifference(0, 0)", x.seamDifference(0, 0), 5);
    }

    private static void remove(Tests t) {
        GarmentMarker x = new GarmentMarker();
        t.due("removePiece(0)", x.removePiece(0), -1001);
        for (int piece : NO_PIECES) {
            t.due("removePiece(" + piece + ")", x.removePiece(piece), -1001);
        }
        x.definePiece(0, 3, 3, 0, 0, 1);
        x.definePiece(1, 4, 4, 0, 0, 1);
        t.due("removePiece(0)", x.removePiece(0), 0);
        t.due("removePiece(0)", x.removePiece(0), -1001);
        t.due("partCount()", x.partCount(), 1);
        t.due("partPiece(0)", x.partPiece(0), 1);
        t.due("define 2", x.definePiece(2, 1, 1, 0, 0, 1), 2);
        t.due("addSeam with the removed piece", x.addSeam(0, 0, 1, 0, 0), -1001);
    }

    private static void removeSeams(Tests t) {
        GarmentMarker x = new GarmentMarker();
        x.definePiece(0, 1, 1, 0, 0, 1);
        x.definePiece(1, 2, 2, 0, 0, 1);
        x.definePiece(2, 4, 4, 0, 0, 1);
        x.addSeam(0, 0, 1, 0, 0);
        x.addSeam(1, 0, 2, 0, 0);
        x.addSeam(2, 0, 0, 0, 0);
        x.addSeam(2, 1, 1, 1, 3);
        x.addSeam(0, 0, 0, 1, 1);
        x.addSeam(2, 0, 2, 1, 2);
        t.due("removePiece(0)", x.removePiece(0), 3);
        t.due("seamCount()", x.seamCount(), 3);
        t.due("seamDifference(0, 0)", x.seamDifference(0, 0), -2);
        t.due("seamDifference(1, 0)", x.seamDifference(1, 0), -1);
        t.due("seamDifference(2, 0)", x.seamDifference(2, 0), -2);
        t.due("seamDifference(3, 0)", x.seamDifference(3, 0), -1003);
        t.due("removePiece(1)", x.removePiece(1), 1);
        t.due("seamDifference(0, 0)", x.seamDifference(0, 0), -2);
        t.due("addSeam", x.addSeam(2, 0, 2, 0, -3), 1);
        t.due("seamDifference(1, 0)", x.seamDifference(1, 0), 3);
        x.definePiece(0, 1, 1, 0, 0, 1);
        t.due("seamCount() after defining it anew", x.seamCount(), 2);
    }

    private static void sides(Tests t) {
        GarmentMarker x = new GarmentMarker();
        x.definePiece(3, 5, 7, 2, 3, 1);
        int[] widths = {5, 7, 9};
        int[] lengths = {7, 10, 13};
        for (int size = 0; size < 3; size++) {
            t.due("pieceWidth(3, " + size + ")", x.pieceWidth(3, size), widths[size]);
            t.due("pieceLength(3, " + size + ")", x.pieceLength(3, size), lengths[size]);
        }
        for (int size : NO_SIZES) {
            t.due("pieceWidth(3, " + size + ")", x.pieceWidth(3, size), -1002);
            t.due("pieceLength(3, " + size + ")", x.pieceLength(3, size), -1002);
            t.due("pieceWidth(2, " + size + ")", x.pieceWidth(2, size), -1001);
            t.due("pieceLength(2, " + size + ")", x.pieceLength(2, size), -1001);
        }
        for (int piece : NO_PIECES) {
            t.due("pieceWidth(" + piece + ", 0)", x.pieceWidth(piece, 0), -1001);
            t.due("pieceLength(" + piece + ", 0)", x.pieceLength(piece, 0), -1001);
        }
    }
}
