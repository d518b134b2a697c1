/** The sentences of the document's description about parts and the strip, each with a test. */
final class PartEdgeTests {
    private PartEdgeTests() {
    }

    static void runAll(Tests tests) {
        tests.run("parts: at first the ratios are 1, 0, 0", PartEdgeTests::firstRatios);
        tests.run("parts: none without pieces", PartEdgeTests::noPieces);
        tests.run("parts: none without garments", PartEdgeTests::noGarments);
        tests.run("parts: at most 72", PartEdgeTests::most);
        tests.run("parts: sizes, garments, pieces, copies", PartEdgeTests::loops);
        tests.run("parts: one per garment on folded cloth", PartEdgeTests::folded);
        tests.run("fold parts: one copy on folded cloth alone", PartEdgeTests::whichFold);
        tests.run("fold parts: whichever of the parts they are", PartEdgeTests::foldCount);
        tests.run("fold parts: half the width, rounded up", PartEdgeTests::halfWidth);
        tests.run("fold parts: never the other way round", PartEdgeTests::foldNotTurned);
        tests.run("strip: the cloth width on open cloth", PartEdgeTests::openStrip);
        tests.run("strip: half the cloth width on folded cloth", PartEdgeTests::foldedStrip);
        tests.run("strip: a fold part as wide as it, and wider", PartEdgeTests::foldStrip);
        tests.run("extents: the normal way without rotation", PartEdgeTests::normalWay);
        tests.run("rotation: only the normal way fits", PartEdgeTests::onlyNormal);
        tests.run("rotation: only the other way fits", PartEdgeTests::onlyTurned);
        tests.run("rotation: both ways fit", PartEdgeTests::bothWays);
        tests.run("rotation: both ways are equal", PartEdgeTests::equalWays);
        tests.run("rotation: neither way fits", PartEdgeTests::neitherWay);
        tests.run("rotation: the strip of folded cloth counts", PartEdgeTests::turnedFolded);
        tests.run("rotation: the way of each size by itself", PartEdgeTests::wayOfSize);
        tests.run("no layout: the first, a middle or the last part", PartEdgeTests::whichTooWide);
        tests.run("no layout: sizes without garments do not count", PartEdgeTests::onlyParts);
        tests.run("no layout: what answers it", PartEdgeTests::noLayoutAnswers);
        tests.run("no layout: what does not hang on it", PartEdgeTests::partsWithoutLayout);
        tests.run("without parts there is a layout of length 0", PartEdgeTests::emptyLayout);
    }

    private static GarmentMarker one(int width, int length, int copies) {
        GarmentMarker x = new GarmentMarker();
        x.definePiece(0, width, length, 0, 0, copies);
        return x;
    }

    private static void extents(Tests t, GarmentMarker x, int part, int across, int along) {
        t.due("partAcrossExtent(" + part + ")", x.partAcrossExtent(part), across);
        t.due("partAlongExtent(" + part + ")", x.partAlongExtent(part), along);
    }

    private static void firstRatios(Tests t) {
        GarmentMarker x = new GarmentMarker();
        t.due("ratio(0)", x.ratio(0), 1);
        t.due("ratio(1)", x.ratio(1), 0);
        t.due("ratio(2)", x.ratio(2), 0);
        x.definePiece(3, 1, 1, 0, 0, 1);
        t.due("partCount()", x.partCount(), 1);
        t.due("partSize(0)", x.partSize(0), 0);
    }

    private static void noPieces(Tests t) {
        GarmentMarker x = new GarmentMarker();
        for (int size = 0; size < 3; size++) {
            x.setRatio(size, 2);
        }
        t.due("partCount()", x.partCount(), 0);
        t.due("foldPartCount()", x.foldPartCount(), 0);
        t.due("partSize(0)", x.partSize(0), -1004);
        t.due("partAlong(0)", x.partAlong(0), -1004);
    }

    private static void noGarments(Tests t) {
        GarmentMarker x = one(3, 3, 2);
        x.setRatio(0, 0);
        t.due("partCount()", x.partCount(), 0);
        x.setFolded(true);
        x.definePiece(0, 3, 3, 0, 0, 1);
        t.due("foldPartCount()", x.foldPartCount(), 0);
        t.due("partPiece(0)", x.partPiece(0), -1004);
        t.due("partAcross(0)", x.partAcross(0), -1004);
    }

    private static void most(Tests t) {
        GarmentMarker x = Start.FULL.make();
        t.due("partCount()", x.partCount(), 72);
        for (int part = 0; part < 72; part++) {
            t.due("partSize(" + part + ")", x.partSize(part), part / 24);
            t.due("partPiece(" + part + ")", x.partPiece(part), part % 12 / 2);
        }
        t.due("partSize(72)", x.partSize(72), -1004);
        x.setFolded(true);
        t.due("partCount() folded", x.partCount(), 36);
        t.due("partPiece(35)", x.partPiece(35), 5);
        t.due("partPiece(36)", x.partPiece(36), -1004);
    }

    /** Ratios 2, 0, 1; piece 1 has two copies, piece 3 one. */
    private static GarmentMarker threeGarments() {
        GarmentMarker x = new GarmentMarker();
        x.definePiece(3, 2, 2, 0, 0, 1);
        x.definePiece(1, 4, 4, 0, 0, 2);
        x.setRatio(0, 2);
        x.setRatio(2, 1);
        return x;
    }

    private static void loops(Tests t) {
        kinds(t, threeGarments(), new int[] {0, 0, 0, 0, 0, 0, 2, 2, 2},
                new int[] {1, 1, 3, 1, 1, 3, 1, 1, 3});
    }

    private static void folded(Tests t) {
        GarmentMarker x = threeGarments();
        x.setFolded(true);
        kinds(t, x, new int[] {0, 0, 0, 0, 2, 2}, new int[] {1, 3, 1, 3, 1, 3});
    }

    private static void kinds(Tests t, GarmentMarker x, int[] sizes, int[] pieces) {
        t.due("partCount()", x.partCount(), sizes.length);
        for (int part = 0; part < sizes.length; part++) {
            t.due("partSize(" + part + ")", x.partSize(part), sizes[part]);
            t.due("partPiece(" + part + ")", x.partPiece(part), pieces[part]);
        }
    }

    private static void whichFold(Tests t) {
        GarmentMarker x = threeGarments();
        t.due("open", x.foldPartCount(), 0);
        x.setFolded(true);
        t.due("folded", x.foldPartCount(), 3);
        extents(t, x, 0, 4, 4);
        extents(t, x, 1, 1, 2);
        x.setRotation(true);
        t.due("folded, with rotation", x.foldPartCount(), 3);
        x.definePiece(3, 2, 2, 0, 0, 2);
        t.due("folded, two copies", x.foldPartCount(), 0);
        extents(t, x, 1, 2, 2);
    }

    private static void foldCount(Tests t) {
        GarmentMarker x = new GarmentMarker();
        x.setFolded(true);
        for (int fold = 0; fold < 6; fold++) {
            for (int piece = 0; piece < 6; piece++) {
                x.definePiece(piece, 2, 2, 0, 0, piece == fold ? 1 : 2);
            }
            t.due("foldPartCount(), piece " + fold, x.foldPartCount(), 1);
            extents(t, x, fold, 1, 2);
            extents(t, x, (fold + 1) % 6, 2, 2);
        }
        for (int piece = 0; piece < 6; piece++) {
            x.definePiece(piece, 2, 2, 0, 0, 1);
        }
        for (int size = 0; size < 3; size++) {
            x.setRatio(size, 2);
        }
        t.due("foldPartCount(), all parts", x.foldPartCount(), 36);
    }

    /** Widths 1 to 12, and greater ones in size 2. */
    private static void halfWidth(Tests t) {
        GarmentMarker x = new GarmentMarker();
        x.setFolded(true);
        int[] halves = {1, 1, 2, 2, 3, 3, 4, 4, 5, 5, 6, 6};
        for (int width = 1; width <= 12; width++) {
            x.definePiece(0, width, 7, 0, 0, 1);
            extents(t, x, 0, halves[width - 1], 7);
        }
        x.setRatio(0, 0);
        x.setRatio(2, 1);
        int[] grown = {6, 7, 8, 9};
        for (int growth = 0; growth <= 3; growth++) {
            x.definePiece(0, 12, 7, growth, 0, 1);
            extents(t, x, 0, grown[growth], 7);
        }
        x.definePiece(0, 11, 7, 3, 1, 1);
        extents(t, x, 0, 9, 9);
    }

    private static void foldNotTurned(Tests t) {
        GarmentMarker x = one(2, 6, 1);
        x.setFolded(true);
        x.setRotation(true);
        extents(t, x, 0, 1, 6);
        x.definePiece(0, 12, 1, 0, 0, 1);
        x.setClothWidth(11);
        extents(t, x, 0, 6, 1);
        t.due("turned it would fit", x.markerLength(), -1007);
        x.definePiece(0, 12, 1, 0, 0, 2);
        extents(t, x, 0, 1, 12);
        t.due("two copies are turned", x.markerLength(), 12);
    }

    private static void openStrip(Tests t) {
        for (int cloth = 4; cloth <= 17; cloth++) {
            fits(t, cloth, false, cloth);
        }
        for (int cloth = 18; cloth <= 24; cloth++) {
            GarmentMarker x = one(12, 1, 1);
            x.setClothWidth(cloth);
            x.definePiece(1, cloth - 12, 1, 0, 0, 1);
            t.due("markerLength(), two parts as wide as " + cloth, x.markerLength(), 1);
            x.definePiece(2, 1, 1, 0, 0, 1);
            t.due("markerLength(), three parts wider than " + cloth, x.markerLength(), 2);
            t.due("wastedArea() on " + cloth, x.wastedArea(), cloth - 1);
        }
    }

    private static void foldedStrip(Tests t) {
        int[] halves = {2, 2, 3, 3, 4, 4, 5, 5, 6, 6, 7, 7, 8, 8, 9, 9, 10, 10, 11, 11, 12};
        for (int cloth = 4; cloth <= 24; cloth++) {
            fits(t, cloth, true, halves[cloth - 4]);
        }
    }

    /** A part as wide as the strip has a layout, a wider one has none. */
    private static void fits(Tests t, int cloth, boolean folded, int strip) {
        String what = (folded ? " on folded cloth " : " on open cloth ") + cloth;
        GarmentMarker x = wide(strip, cloth, folded);
        t.due("partAcrossExtent(0)", x.partAcrossExtent(0), strip);
        t.due("markerLength() of a part as wide as the strip" + what, x.markerLength(), 1);
        t.due("partAcross(0)" + what, x.partAcross(0), 0);
        t.due("wastedArea()" + what, x.wastedArea(), 0);
        x = wide(strip + 1, cloth, folded);
        t.due("partAcrossExtent(0)", x.partAcrossExtent(0), strip + 1);
        t.due("markerLength() of a part wider than the strip" + what, x.markerLength(), -1007);
        x = wide(strip - 1, cloth, folded);
        t.due("wastedArea() of a part less wide" + what, x.wastedArea(), 1);
    }

    /** One part, that wide and 1 long: of size 0, or above 12 of size 2. */
    private static GarmentMarker wide(int width, int cloth, boolean folded) {
        GarmentMarker x = new GarmentMarker();
        int growth = width > 12 ? 3 : 0;
        x.definePiece(0, width - 2 * growth, 1, growth, 0, folded ? 2 : 1);
        x.setRatio(0, width > 12 ? 0 : 1);
        x.setRatio(2, width > 12 ? 1 : 0);
        x.setClothWidth(cloth);
        x.setFolded(folded);
        return x;
    }

    private static void foldStrip(Tests t) {
        for (int cloth = 4; cloth <= 11; cloth++) {
            GarmentMarker x = one(cloth / 2 * 2, 3, 1);
            x.setClothWidth(cloth);
            x.setFolded(true);
            extents(t, x, 0, cloth / 2, 3);
            t.due("markerLength() on folded " + cloth, x.markerLength(), 3);
            x.definePiece(0, cloth / 2 * 2 + 1, 3, 0, 0, 1);
            extents(t, x, 0, cloth / 2 + 1, 3);
            t.due("markerLength() a little wider on " + cloth, x.markerLength(), -1007);
            x.definePiece(0, cloth / 2 * 2 - 1, 3, 0, 0, 1);
            t.due("markerLength() a little less on " + cloth, x.markerLength(), 3);
        }
    }

    private static void normalWay(Tests t) {
        GarmentMarker x = new GarmentMarker();
        x.definePiece(0, 3, 8, 2, 1, 1);
        x.definePiece(1, 9, 2, 0, 3, 1);
        x.setRatio(0, 1);
        x.setRatio(1, 1);
        x.setRatio(2, 1);
        extents(t, x, 0, 3, 8);
        extents(t, x, 1, 9, 2);
        extents(t, x, 2, 5, 9);
        extents(t, x, 3, 9, 5);
        extents(t, x, 4, 7, 10);
        extents(t, x, 5, 9, 8);
        x.setClothWidth(4);
        extents(t, x, 5, 9, 8);
    }

    private static GarmentMarker turnable(int width, int length, int cloth) {
        GarmentMarker x = one(width, length, 1);
        x.setRotation(true);
        x.setClothWidth(cloth);
        return x;
    }

    private static void onlyNormal(Tests t) {
        extents(t, turnable(3, 9, 8), 0, 3, 9);
        extents(t, turnable(8, 9, 8), 0, 8, 9);
        extents(t, turnable(4, 5, 4), 0, 4, 5);
    }

    private static void onlyTurned(Tests t) {
        extents(t, turnable(9, 3, 8), 0, 3, 9);
        extents(t, turnable(9, 8, 8), 0, 8, 9);
        extents(t, turnable(5, 4, 4), 0, 4, 5);
        t.due("markerLength()", turnable(9, 8, 8).markerLength(), 9);
        GarmentMarker x = turnable(9, 8, 8);
        x.setRotation(false);
        t.due("markerLength() without rotation", x.markerLength(), -1007);
    }

    private static void bothWays(Tests t) {
        extents(t, turnable(3, 8, 8), 0, 8, 3);
        extents(t, turnable(8, 3, 8), 0, 8, 3);
        extents(t, turnable(7, 8, 8), 0, 8, 7);
        extents(t, turnable(8, 7, 8), 0, 8, 7);
        extents(t, turnable(1, 2, 24), 0, 2, 1);
        extents(t, turnable(2, 1, 24), 0, 2, 1);
    }

    private static void equalWays(Tests t) {
        extents(t, turnable(8, 8, 8), 0, 8, 8);
        extents(t, turnable(1, 1, 8), 0, 1, 1);
        extents(t, turnable(9, 9, 8), 0, 9, 9);
    }

    private static void neitherWay(Tests t) {
        extents(t, turnable(9, 12, 8), 0, 9, 12);
        extents(t, turnable(12, 9, 8), 0, 12, 9);
        t.due("markerLength()", turnable(9, 12, 8).markerLength(), -1007);
        t.due("markerLength()", turnable(12, 9, 8).markerLength(), -1007);
    }

    /** Cloth 9 wide: a strip of 4 when it is folded. */
    private static void turnedFolded(Tests t) {
        int[][] due = {{3, 4, 4, 3}, {3, 5, 3, 5}, {5, 4, 4, 5}, {5, 3, 3, 5}, {5, 6, 5, 6},
            {4, 4, 4, 4}};
        for (int[] a : due) {
            GarmentMarker x = one(a[0], a[1], 2);
            x.setRotation(true);
            x.setClothWidth(9);
            x.setFolded(true);
            extents(t, x, 0, a[2], a[3]);
        }
    }

    private static void wayOfSize(Tests t) {
        GarmentMarker x = new GarmentMarker();
        x.setRotation(true);
        x.setClothWidth(8);
        x.definePiece(0, 6, 7, 2, 1, 1);
        x.setRatio(1, 1);
        x.setRatio(2, 1);
        extents(t, x, 0, 7, 6);
        extents(t, x, 1, 8, 8);
        extents(t, x, 2, 10, 9);
        x.setRotation(false);
        extents(t, x, 0, 6, 7);
    }

    private static void whichTooWide(Tests t) {
        for (int wide = 0; wide < 6; wide++) {
            GarmentMarker x = new GarmentMarker();
            for (int piece = 0; piece < 6; piece++) {
                x.definePiece(piece, piece == wide ? 12 : 11, 1, 0, 0, 1);
            }
            t.due("piece " + wide + " as wide as the strip", x.markerLength(), 6);
            x.setClothWidth(11);
            t.due("piece " + wide + " too wide", x.markerLength(), -1007);
        }
    }

    private static void onlyParts(Tests t) {
        GarmentMarker x = new GarmentMarker();
        x.definePiece(0, 11, 1, 1, 0, 1);
        x.setRatio(1, 2);
        t.due("size 2 has no garments", x.markerLength(), 3);
        x.setRatio(2, 1);
        t.due("size 2 has one", x.markerLength(), -1007);
        x.definePiece(1, 1, 1, 0, 0, 1);
        t.due("beside a part that fits", x.markerLength(), -1007);
        x.removePiece(0);
        t.due("without the piece", x.markerLength(), 1);
    }

    private static void noLayoutAnswers(Tests t) {
        for (Start start : new Start[] {Start.TOO_WIDE, Start.NARROW}) {
            start.unchanged(t, "markerLength()", GarmentMarker::markerLength, -1007);
            start.unchanged(t, "wastedArea()", GarmentMarker::wastedArea, -1007);
            start.unchanged(t, "bestLength()", GarmentMarker::bestLength, -1007);
            start.unchanged(t, "bestPacking()", GarmentMarker::bestPacking, -1007);
            start.unchanged(t, "markerLengthWith(1, 3)", x -> x.markerLengthWith(1, 3), -1007);
            start.unchanged(t, "partAlong(5)", x -> x.partAlong(5), -1007);
            start.unchanged(t, "partAcross(5)", x -> x.partAcross(5), -1007);
        }
    }

    /** Six parts: piece 1 and twice piece 4, both in size 1, and the same once more. */
    private static void partsWithoutLayout(Tests t) {
        Start start = Start.TOO_WIDE;
        start.unchanged(t, "partCount()", GarmentMarker::partCount, 6);
        start.unchanged(t, "foldPartCount()", GarmentMarker::foldPartCount, 0);
        start.unchanged(t, "partSize(5)", x -> x.partSize(5), 1);
        start.unchanged(t, "partPiece(5)", x -> x.partPiece(5), 4);
        start.unchanged(t, "partAlongExtent(3)", x -> x.partAlongExtent(3), 4);
        start.unchanged(t, "partAcrossExtent(3)", x -> x.partAcrossExtent(3), 5);
        start.unchanged(t, "partAlongExtent(5)", x -> x.partAlongExtent(5), 6);
        start.unchanged(t, "partAcrossExtent(5)", x -> x.partAcrossExtent(5), 7);
    }

    private static void emptyLayout(Tests t) {
        GarmentMarker[] empty = {new GarmentMarker(), one(12, 12, 2), one(12, 12, 1)};
        for (GarmentMarker x : empty) {
            x.setRatio(0, 0);
            x.setClothWidth(4);
            x.setPacking(1, 3);
            t.due("markerLength()", x.markerLength(), 0);
            t.due("wastedArea()", x.wastedArea(), 0);
            for (int i = 0; i < 8; i++) {
                t.due("markerLengthWith", x.markerLengthWith(i / 4, i % 4), 0);
            }
            t.due("bestLength()", x.bestLength(), 0);
            t.due("bestPacking()", x.bestPacking(), 0);
            t.due("clothLength()", x.clothLength(), 0);
            x.setFolded(true);
            t.due("markerLength() folded", x.markerLength(), 0);
        }
    }
}
