/** The five examples of the document and its constants. */
final class ExampleTests {
    private ExampleTests() {
    }

    static void runAll(Tests tests) {
        tests.run("example 1: three parts on two shelves", ExampleTests::shelves);
        tests.run("example 2: folded cloth with a fold part", ExampleTests::folded);
        tests.run("example 3: seams", ExampleTests::seams);
        tests.run("example 4: no layout, and errors", ExampleTests::noLayout);
        tests.run("example 5: plies and the best mix", ExampleTests::plies);
        tests.run("the constants", ExampleTests::constants);
    }

    private static void shelves(Tests t) {
        GarmentMarker x = new GarmentMarker();
        t.due("definePiece(0, 6, 8, 1, 1, 2)", x.definePiece(0, 6, 8, 1, 1, 2), 1);
        t.due("definePiece(1, 5, 4, 1, 0, 1)", x.definePiece(1, 5, 4, 1, 0, 1), 2);
        t.due("partCount()", x.partCount(), 3);
        t.due("markerLength()", x.markerLength(), 12);
        t.due("partAlong(2)", x.partAlong(2), 8);
        t.due("partAcross(2)", x.partAcross(2), 0);
    }

    private static void folded(Tests t) {
        GarmentMarker x = new GarmentMarker();
        t.due("definePiece(0, 7, 9, 0, 0, 1)", x.definePiece(0, 7, 9, 0, 0, 1), 1);
        t.due("definePiece(1, 4, 9, 0, 0, 2)", x.definePiece(1, 4, 9, 0, 0, 2), 2);
        t.due("setFolded(true)", x.setFolded(true), false);
        t.due("partAcrossExtent(0)", x.partAcrossExtent(0), 4);
        t.due("partAlong(1)", x.partAlong(1), 9);
        t.due("partAcross(1)", x.partAcross(1), 0);
        t.due("setPacking(1, 0)", x.setPacking(1, 0), 0);
        t.due("partAlong(1)", x.partAlong(1), 9);
        t.due("partAcross(1)", x.partAcross(1), 0);
    }

    private static void seams(Tests t) {
        GarmentMarker x = new GarmentMarker();
        t.due("definePiece(0, 4, 6, 2, 2, 1)", x.definePiece(0, 4, 6, 2, 2, 1), 1);
        t.due("definePiece(1, 6, 5, 2, 1, 1)", x.definePiece(1, 6, 5, 2, 1, 1), 2);
        t.due("addSeam(0, 1, 1, 0, 0)", x.addSeam(0, 1, 1, 0, 0), 0);
        t.due("addSeam(0, 0, 1, 1, -1)", x.addSeam(0, 0, 1, 1, -1), 1);
        t.due("matchingSeams()", x.matchingSeams(), 1);
        t.due("firstMismatch()", x.firstMismatch(), 1);
        t.due("seamDifference(1, 2)", x.seamDifference(1, 2), 2);
    }

    private static void noLayout(Tests t) {
        GarmentMarker x = new GarmentMarker();
        t.due("definePiece(0, 5, 5, 0, 0, 1)", x.definePiece(0, 5, 5, 0, 0, 1), 1);
        t.due("setClothWidth(4)", x.setClothWidth(4), 12);
        t.due("markerLength()", x.markerLength(), -1007);
        t.due("partAlong(0)", x.partAlong(0), -1007);
        t.due("partAlong(1)", x.partAlong(1), -1004);
        t.due("setRatio(3, 5)", x.setRatio(3, 5), -1002);
    }

    private static void plies(Tests t) {
        GarmentMarker x = new GarmentMarker();
        t.due("definePiece(0, 6, 4, 0, 0, 1)", x.definePiece(0, 6, 4, 0, 0, 1), 1);
        t.due("setOrdered(0, 10)", x.setOrdered(0, 10), 0);
        t.due("setOrdered(1, 10)", x.setOrdered(1, 10), 0);
        t.due("plies()", x.plies(), -1008);
        t.due("bestMix()", x.bestMix(), 110);
        t.due("bestMixCloth()", x.bestMixCloth(), 40);
    }

    private static void constants(Tests t) {
        t.due("NO_SUCH_PIECE", GarmentMarker.NO_SUCH_PIECE, -1001);
        t.due("NO_SUCH_SIZE", GarmentMarker.NO_SUCH_SIZE, -1002);
        t.due("NO_SUCH_SEAM", GarmentMarker.NO_SUCH_SEAM, -1003);
        t.due("NO_SUCH_PART", GarmentMarker.NO_SUCH_PART, -1004);
        t.due("OUT_OF_RANGE", GarmentMarker.OUT_OF_RANGE, -1005);
        t.due("TOO_MANY_SEAMS", GarmentMarker.TOO_MANY_SEAMS, -1006);
        t.due("NO_LAYOUT", GarmentMarker.NO_LAYOUT, -1007);
        t.due("NO_PLIES", GarmentMarker.NO_PLIES, -1008);
        t.due("NO_GOOD_MIX", GarmentMarker.NO_GOOD_MIX, -1009);
        t.due("NONE", GarmentMarker.NONE, -1010);
        t.due("NOT_SAVED", GarmentMarker.NOT_SAVED, -1011);
        t.due("WIDTH_SIDE", GarmentMarker.WIDTH_SIDE, 0);
        t.due("LENGTH_SIDE", GarmentMarker.LENGTH_SIDE, 1);
        t.due("SHELVES", GarmentMarker.SHELVES, 0);
        t.due("FIRST_FREE", GarmentMarker.FIRST_FREE, 1);
        t.due("BY_INDEX", GarmentMarker.BY_INDEX, 0);
        t.due("BY_ALONG", GarmentMarker.BY_ALONG, 1);
        t.due("BY_ACROSS", GarmentMarker.BY_ACROSS, 2);
        t.due("BY_AREA", GarmentMarker.BY_AREA, 3);
    }
}
