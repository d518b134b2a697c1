import java.util.function.ToIntFunction;

/** Calls with more than one fault: the error that the document checks first is due. */
final class CheckOrderTests {
    private static final int[] NO_PIECES = {-1, 6, Integer.MIN_VALUE, Integer.MAX_VALUE};
    private static final int[] NO_SIZES = {-1, 3, Integer.MIN_VALUE, Integer.MAX_VALUE};

    private CheckOrderTests() {
    }

    static void runAll(Tests tests) {
        tests.run("promise 2: NO_SUCH_PIECE before OUT_OF_RANGE", CheckOrderTests::definePiece);
        tests.run("promise 4: NO_SUCH_PIECE before NO_SUCH_SIZE", CheckOrderTests::pieceWidth);
        tests.run("promise 5: NO_SUCH_PIECE before NO_SUCH_SIZE", CheckOrderTests::pieceLength);
        tests.run("promise 6: NO_SUCH_PIECE before OUT_OF_RANGE", CheckOrderTests::seamPiece);
        tests.run("promise 6: NO_SUCH_PIECE before TOO_MANY_SEAMS", CheckOrderTests::fullPiece);
        tests.run("promise 6: OUT_OF_RANGE before TOO_MANY_SEAMS", CheckOrderTests::fullRange);
        tests.run("promise 8: NO_SUCH_SEAM before NO_SUCH_SIZE", CheckOrderTests::difference);
        tests.run("promise 11: NO_SUCH_SIZE before OUT_OF_RANGE", CheckOrderTests::setRatio);
        tests.run("promise 21: NO_SUCH_PART before NO_LAYOUT", CheckOrderTests::partAlong);
        tests.run("promise 22: NO_SUCH_PART before NO_LAYOUT", CheckOrderTests::partAcross);
        tests.run("promise 27: OUT_OF_RANGE before NO_LAYOUT", CheckOrderTests::lengthWith);
        tests.run("promise 30: NO_SUCH_SIZE before OUT_OF_RANGE", CheckOrderTests::setOrdered);
        tests.run("promise 32: NO_PLIES before NO_LAYOUT", CheckOrderTests::clothLength);
        tests.run("promise 39: OUT_OF_RANGE before NOT_SAVED", CheckOrderTests::restore);
    }

    private static void everywhere(Tests t, String call, ToIntFunction<GarmentMarker> made,
            int due) {
        for (Start start : Start.values()) {
            start.unchanged(t, call, made, due);
        }
    }

    private static void definePiece(Tests t) {
        int[][] wrong = {{0, 4, 1, 2, 1}, {13, 4, 1, 2, 1}, {3, 0, 1, 2, 1}, {3, 13, 1, 2, 1},
            {3, 4, -1, 2, 1}, {3, 4, 4, 2, 1}, {3, 4, 1, -1, 1}, {3, 4, 1, 4, 1}, {3, 4, 1, 2, 0},
            {3, 4, 1, 2, 3}, {0, 0, -1, -1, 0}};
        for (int[] a : wrong) {
            for (int piece : NO_PIECES) {
                t.due("piece " + piece, new GarmentMarker().definePiece(piece, a[0], a[1], a[2],
                        a[3], a[4]), -1001);
            }
            everywhere(t, "definePiece(6, ..) with more faults",
                    x -> x.definePiece(6, a[0], a[1], a[2], a[3], a[4]), -1001);
            everywhere(t, "definePiece(5, ..)",
                    x -> x.definePiece(5, a[0], a[1], a[2], a[3], a[4]), -1005);
        }
    }

    private static void pieceWidth(Tests t) {
        for (int size : NO_SIZES) {
            for (int piece : NO_PIECES) {
                everywhere(t, "pieceWidth(" + piece + ", " + size + ")",
                        x -> x.pieceWidth(piece, size), -1001);
            }
            Start.MIDDLE.unchanged(t, "pieceWidth(1, " + size + ")", x -> x.pieceWidth(1, size),
                    -1001);
        }
    }

    private static void pieceLength(Tests t) {
        for (int size : NO_SIZES) {
            for (int piece : NO_PIECES) {
                everywhere(t, "pieceLength(" + piece + ", " + size + ")",
                        x -> x.pieceLength(piece, size), -1001);
            }
            Start.MIDDLE.unchanged(t, "pieceLength(1, " + size + ")", x -> x.pieceLength(1, size),
                    -1001);
        }
    }

    private static void seamPiece(Tests t) {
        int[] undefined = {1, 3, 4, -1, 6, Integer.MIN_VALUE, Integer.MAX_VALUE};
        for (int piece : undefined) {
            String what = "addSeam with piece " + piece;
            Start.MIDDLE.unchanged(t, what, x -> x.addSeam(piece, 2, 0, 0, 0), -1001);
            Start.MIDDLE.unchanged(t, what, x -> x.addSeam(piece, 0, 0, -1, 0), -1001);
            Start.MIDDLE.unchanged(t, what, x -> x.addSeam(piece, 0, 0, 0, 4), -1001);
            Start.MIDDLE.unchanged(t, what, x -> x.addSeam(0, 2, piece, 0, 0), -1001);
            Start.MIDDLE.unchanged(t, what, x -> x.addSeam(0, 0, piece, -1, 0), -1001);
            Start.MIDDLE.unchanged(t, what, x -> x.addSeam(0, 0, piece, 0, -4), -1001);
            Start.MIDDLE.unchanged(t, what, x -> x.addSeam(piece, 0, piece, 0, -4), -1001);
        }
    }

    private static void fullPiece(Tests t) {
        for (int piece : NO_PIECES) {
            Start.FULL.unchanged(t, "a seventh seam", x -> x.addSeam(piece, 0, 0, 0, 0), -1001);
            Start.FULL.unchanged(t, "a seventh seam", x -> x.addSeam(0, 0, piece, 0, 0), -1001);
            Start.FULL.unchanged(t, "a seventh seam", x -> x.addSeam(piece, 2, 0, 0, 4), -1001);
        }
        GarmentMarker x = new GarmentMarker();
        x.definePiece(3, 1, 1, 0, 0, 1);
        for (int seam = 0; seam < 6; seam++) {
            x.addSeam(3, 0, 3, 0, 0);
        }
        t.due("a seventh seam of a piece never defined", x.addSeam(3, 0, 2, 0, 0), -1001);
        t.due("a seventh seam of defined pieces", x.addSeam(3, 0, 3, 0, 0), -1006);
    }

    private static void fullRange(Tests t) {
        Start.FULL.unchanged(t, "a seventh seam, side 2", x -> x.addSeam(0, 2, 1, 0, 0), -1005);
        Start.FULL.unchanged(t, "a seventh seam, side -1", x -> x.addSeam(0, 0, 1, -1, 0), -1005);
        Start.FULL.unchanged(t, "a seventh seam, ease 4", x -> x.addSeam(0, 0, 1, 0, 4), -1005);
        Start.FULL.unchanged(t, "a seventh seam, ease -4", x -> x.addSeam(0, 0, 1, 0, -4), -1005);
        Start.FULL.unchanged(t, "a seventh seam", x -> x.addSeam(0, 0, 1, 0, 0), -1006);
    }

    private static void difference(Tests t) {
        int[] noSeams = {-1, 6, Integer.MIN_VALUE, Integer.MAX_VALUE};
        for (int size : NO_SIZES) {
            for (int seam : noSeams) {
                everywhere(t, "seamDifference(" + seam + ", " + size + ")",
                        x -> x.seamDifference(seam, size), -1003);
            }
            Start.MIDDLE.unchanged(t, "seamDifference(3, " + size + ")",
                    x -> x.seamDifference(3, size), -1003);
            Start.MIDDLE.unchanged(t, "seamDifference(2, " + size + ")",
                    x -> x.seamDifference(2, size), -1002);
            Start.NEW.unchanged(t, "seamDifference(0, " + size + ")",
                    x -> x.seamDifference(0, size), -1003);
        }
    }

    private static void setRatio(Tests t) {
        int[] noCounts = {-1, 3, Integer.MIN_VALUE, Integer.MAX_VALUE};
        for (int count : noCounts) {
            for (int size : NO_SIZES) {
                everywhere(t, "setRatio(" + size + ", " + count + ")",
                        x -> x.setRatio(size, count), -1002);
            }
            everywhere(t, "setRatio(2, " + count + ")", x -> x.setRatio(2, count), -1005);
        }
    }

    private static void partAlong(Tests t) {
        int[] noParts = {-1, 6, Integer.MIN_VALUE, Integer.MAX_VALUE};
        for (int part : noParts) {
            Start.TOO_WIDE.unchanged(t, "partAlong(" + part + ")", x -> x.partAlong(part), -1004);
        }
        Start.TOO_WIDE.unchanged(t, "partAlong(0)", x -> x.partAlong(0), -1007);
        Start.TOO_WIDE.unchanged(t, "partAlong(5)", x -> x.partAlong(5), -1007);
    }

    private static void partAcross(Tests t) {
        int[] noParts = {-1, 6, Integer.MIN_VALUE, Integer.MAX_VALUE};
        for (int part : noParts) {
            Start.TOO_WIDE.unchanged(t, "partAcross(" + part + ")", x -> x.partAcross(part), -1004);
        }
        Start.TOO_WIDE.unchanged(t, "partAcross(0)", x -> x.partAcross(0), -1007);
        Start.TOO_WIDE.unchanged(t, "partAcross(5)", x -> x.partAcross(5), -1007);
    }

    private static void lengthWith(Tests t) {
        int[][] wrong = {{-1, 0}, {2, 0}, {0, -1}, {1, 4}, {2, 4}, {Integer.MIN_VALUE, 1},
            {Integer.MAX_VALUE, 1}, {1, Integer.MIN_VALUE}, {1, Integer.MAX_VALUE}};
        for (int[] a : wrong) {
            everywhere(t, "markerLengthWith(" + a[0] + ", " + a[1] + ")",
                    x -> x.markerLengthWith(a[0], a[1]), -1005);
            everywhere(t, "setPacking(" + a[0] + ", " + a[1] + ")",
                    x -> x.setPacking(a[0], a[1]), -1005);
        }
        for (int i = 0; i < 8; i++) {
            int packing = i;
            Start.TOO_WIDE.unchanged(t, "markerLengthWith(" + i / 4 + ", " + i % 4 + ")",
                    x -> x.markerLengthWith(packing / 4, packing % 4), -1007);
        }
    }

    private static void setOrdered(Tests t) {
        int[] noCounts = {-1, 100, Integer.MIN_VALUE, Integer.MAX_VALUE};
        for (int count : noCounts) {
            for (int size : NO_SIZES) {
                everywhere(t, "setOrdered(" + size + ", " + count + ")",
                        x -> x.setOrdered(size, count), -1002);
            }
            everywhere(t, "setOrdered(2, " + count + ")", x -> x.setOrdered(2, count), -1005);
        }
    }

    private static void clothLength(Tests t) {
        Start.TOO_WIDE.unchanged(t, "clothLength(), neither", GarmentMarker::clothLength, -1008);
        GarmentMarker x = Start.TOO_WIDE.make();
        x.setOrdered(2, 0);
        t.due("clothLength(), plies alone", x.clothLength(), -1007);
        x.setClothWidth(24);
        t.due("clothLength(), both", x.clothLength() >= 0, true);
        x.setOrdered(2, 1);
        t.due("clothLength(), a layout alone", x.clothLength(), -1008);
    }

    private static void restore(Tests t) {
        int[] noSlots = {-1, 2, Integer.MIN_VALUE, Integer.MAX_VALUE};
        for (int slot : noSlots) {
            everywhere(t, "restore(" + slot + ")", x -> x.restore(slot), -1005);
            everywhere(t, "save(" + slot + ")", x -> x.save(slot), -1005);
        }
        Start.NEW.unchanged(t, "restore(0)", x -> x.restore(0), -1011);
        Start.NEW.unchanged(t, "restore(1)", x -> x.restore(1), -1011);
        Start.MIDDLE.unchanged(t, "restore(1)", x -> x.restore(1), -1011);
        Start.TOO_WIDE.unchanged(t, "restore(0)", x -> x.restore(0), -1011);
    }
}
