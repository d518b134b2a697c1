/** Promises 17 to 20, 23 and 24: the parts and their extents. */
final class PartTests {
    private static final int[] NO_PARTS = {-1, Integer.MIN_VALUE, Integer.MAX_VALUE};

    private PartTests() {
    }

    static void runAll(Tests tests) {
        tests.run("promise 17: partCount", PartTests::count);
        tests.run("promise 18: foldPartCount", PartTests::foldCount);
        tests.run("promises 19 and 20: partSize and partPiece", PartTests::nesting);
        tests.run("promises 19 and 20: folded", PartTests::foldedNesting);
        tests.run("promises 19, 20, 23, 24: no such part", PartTests::noSuchPart);
        tests.run("promises 17 to 20, 23, 24: from the current state", PartTests::currentState);
        tests.run("promises 23 and 24: extents without rotation", PartTests::normalWay);
        tests.run("promises 23 and 24: extents with rotation", PartTests::rotation);
        tests.run("promises 23 and 24: extents of fold parts", PartTests::foldParts);
        tests.run("promises 23 and 24: extents without a layout", PartTests::withoutLayout);
    }

    private static void count(Tests t) {
        GarmentMarker x = new GarmentMarker();
        for (int piece = 0; piece < 6; piece++) {
            x.definePiece(piece, 1, 1, 0, 0, 2);
        }
        t.due("one garment", x.partCount(), 12);
        x.setRatio(0, 2);
        x.setRatio(1, 2);
        x.setRatio(2, 2);
        t.due("the most parts", x.partCount(), 72);
        t.due("partSize(71)", x.partSize(71), 2);
        t.due("partPiece(71)", x.partPiece(71), 5);
        t.due("partSize(72)", x.partSize(72), -1004);
        x.setFolded(true);
        t.due("folded", x.partCount(), 36);
        x.definePiece(3, 1, 1, 0, 0, 1);
        t.due("folded, one copy", x.partCount(), 36);
        x.setFolded(false);
        t.due("open, one copy", x.partCount(), 66);
        x.setRatio(0, 0);
        x.setRatio(1, 0);
        x.setRatio(2, 0);
        t.due("no garments", x.partCount(), 0);
    }

    private static void foldCount(Tests t) {
        GarmentMarker x = new GarmentMarker();
        x.definePiece(0, 5, 5, 0, 0, 1);
        x.definePiece(1, 5, 5, 0, 0, 2);
        x.definePiece(2, 5, 5, 0, 0, 1);
        t.due("open", x.foldPartCount(), 0);
        x.setFolded(true);
        t.due("folded", x.foldPartCount(), 2);
        x.setRatio(2, 2);
        t.due("three garments", x.foldPartCount(), 6);
        x.setRotation(true);
        t.due("with rotation", x.foldPartCount(), 6);
        x.setRatio(0, 0);
        x.setRatio(2, 0);
        t.due("no garments", x.foldPartCount(), 0);
    }

    private static void nesting(Tests t) {
        GarmentMarker x = new GarmentMarker();
        x.definePiece(4, 1, 1, 0, 0, 2);
        x.definePiece(1, 1, 1, 0, 0, 1);
        x.setRatio(0, 0);
        x.setRatio(1, 2);
        x.setRatio(2, 1);
        int[] sizes = {1, 1, 1, 1, 1, 1, 2, 2, 2};
        int[] pieces = {1, 4, 4, 1, 4, 4, 1, 4, 4};
        t.due("partCount()", x.partCount(), 9);
        for (int part = 0; part < 9; part++) {
            t.due("partSize(" + part + ")", x.partSize(part), sizes[part]);
            t.due("partPiece(" + part + ")", x.partPiece(part), pieces[part]);
        }
    }

    private static void foldedNesting(Tests t) {
        GarmentMarker x = new GarmentMarker();
        x.definePiece(4, 1, 1, 0, 0, 2);
        x.definePiece(1, 1, 1, 0, 0, 1);
        x.setRatio(2, 1);
        x.setFolded(true);
        int[] sizes = {0, 0, 2, 2};
        int[] pieces = {1, 4, 1, 4};
        t.due("partCount()", x.partCount(), 4);
        for (int part = 0; part < 4; part++) {
            t.due("partSize(" + part + ")", x.partSize(part), sizes[part]);
            t.due("partPiece(" + part + ")", x.partPiece(part), pieces[part]);
        }
    }

    private static void noSuchPart(Tests t) {
        GarmentMarker x = new GarmentMarker();
        noPartBeside(t, x, 0);
        x.definePiece(0, 1, 1, 0, 0, 2);
        noPartBeside(t, x, 2);
    }

    private static void noPartBeside(Tests t, GarmentMarker x, int total) {
        for (int wrong : NO_PARTS) {
            noPart(t, x, wrong);
        }
        noPart(t, x, total);
    }

    private static void noPart(Tests t, GarmentMarker x, int part) {
        t.due("partSize(" + part + ")", x.partSize(part), -1004);
        t.due("partPiece(" + part + ")", x.partPiece(part), -1004);
        t.due("partAlongExtent(" + part + ")", x.partAlongExtent(part), -1004);
        t.due("partAcrossExtent(" + part + ")", x.partAcrossExtent(part), -1004);
    }

    /** Each question is the first one after a change, so none may lean on the one before. */
    private static void currentState(Tests t) {
        GarmentMarker x = new GarmentMarker();
        x.definePiece(0, 3, 4, 1, 1, 1);
        t.due("partSize(0)", x.partSize(0), 0);
        x.setRatio(0, 0);
        t.due("partSize(0)", x.partSize(0), -1004);
        x.setRatio(1, 1);
        t.due("partSize(0)", x.partSize(0), 1);
        x.removePiece(0);
        t.due("partPiece(0)", x.partPiece(0), -1004);
        x.definePiece(2, 3, 4, 1, 1, 1);
        t.due("partPiece(0)", x.partPiece(0), 2);
        x.setRatio(1, 0);
        t.due("partAlongExtent(0)", x.partAlongExtent(0), -1004);
        x.setRatio(2, 1);
        t.due("partAlongExtent(0)", x.partAlongExtent(0), 6);
        x.setRatio(2, 0);
        t.due("partAcrossExtent(0)", x.partAcrossExtent(0), -1004);
        x.setRatio(1, 2);
        t.due("partAcrossExtent(0)", x.partAcrossExtent(0), 4);
        x.setFolded(true);
        t.due("foldPartCount()", x.foldPartCount(), 2);
        x.setRatio(1, 1);
        t.due("partCount()", x.partCount(), 1);
        x.goodMixes();
        t.due("partCount() after goodMixes()", x.partCount(), 1);
        x.bestMix();
        t.due("partAcrossExtent(0) after bestMix()", x.partAcrossExtent(0), 2);
    }

    private static void extents(Tests t, GarmentMarker x, int part, int across, int along) {
        t.due("partAcrossExtent(" + part + ")", x.partAcrossExtent(part), across);
        t.due("partAlongExtent(" + part + ")", x.partAlongExtent(part), along);
    }

    private static void normalWay(Tests t) {
        GarmentMarker x = new GarmentMarker();
        x.definePiece(0, 3, 8, 2, 1, 1);
        x.setRatio(1, 1);
        x.setRatio(2, 1);
        extents(t, x, 0, 3, 8);
        extents(t, x, 1, 5, 9);
        extents(t, x, 2, 7, 10);
        x.setFolded(true);
        x.definePiece(0, 3, 8, 2, 1, 2);
        extents(t, x, 1, 5, 9);
    }

    private static void rotation(Tests t) {
        GarmentMarker x = new GarmentMarker();
        x.setRotation(true);
        x.setClothWidth(8);
        x.definePiece(0, 3, 8, 0, 0, 1);
        extents(t, x, 0, 8, 3);
        x.definePiece(0, 3, 9, 0, 0, 1);
        extents(t, x, 0, 3, 9);
        x.definePiece(0, 8, 3, 0, 0, 1);
        extents(t, x, 0, 8, 3);
        x.definePiece(0, 9, 3, 0, 0, 1);
        extents(t, x, 0, 3, 9);
        x.definePiece(0, 9, 8, 0, 0, 1);
        extents(t, x, 0, 8, 9);
        x.definePiece(0, 9, 12, 0, 0, 1);
        extents(t, x, 0, 9, 12);
        x.definePiece(0, 12, 9, 0, 0, 1);
        extents(t, x, 0, 12, 9);
        x.definePiece(0, 5, 5, 0, 0, 1);
        extents(t, x, 0, 5, 5);
        x.setFolded(true);
        x.definePiece(0, 3, 4, 0, 0, 2);
        extents(t, x, 0, 4, 3);
        x.definePiece(0, 3, 5, 0, 0, 2);
        extents(t, x, 0, 3, 5);
        x.setClothWidth(9);
        extents(t, x, 0, 3, 5);
        x.setClothWidth(10);
        extents(t, x, 0, 5, 3);
    }

    private static void foldParts(Tests t) {
        GarmentMarker x = new GarmentMarker();
        x.setFolded(true);
        x.setRotation(true);
        x.definePiece(0, 1, 2, 1, 0, 1);
        x.setRatio(1, 1);
        x.setRatio(2, 1);
        extents(t, x, 0, 1, 2);
        extents(t, x, 1, 1, 2);
        extents(t, x, 2, 2, 2);
        x.definePiece(0, 12, 3, 3, 0, 1);
        extents(t, x, 0, 6, 3);
        extents(t, x, 1, 8, 3);
        extents(t, x, 2, 9, 3);
    }

    private static void withoutLayout(Tests t) {
        GarmentMarker x = new GarmentMarker();
        x.definePiece(0, 12, 3, 1, 0, 1);
        x.definePiece(1, 2, 7, 1, 0, 1);
        x.setRatio(1, 1);
        t.due("markerLength()", x.markerLength(), -1007);
        extents(t, x, 2, 13, 3);
        extents(t, x, 3, 3, 7);
    }
}
