/** Promises 6 to 10: the seams. */
final class SeamTests {
    private SeamTests() {
    }

    static void runAll(Tests tests) {
        tests.run("promise 6: addSeam, its errors and their order", SeamTests::add);
        tests.run("promise 6: addSeam with six seams", SeamTests::tooMany);
        tests.run("promise 7: seamCount", SeamTests::count);
        tests.run("promise 8: seamDifference", SeamTests::difference);
        tests.run("promise 8: seamDifference, its errors", SeamTests::differenceErrors);
        tests.run("promises 9 and 10: matchingSeams and firstMismatch", SeamTests::matching);
        tests.run("promises 9 and 10: six seams, and removed ones", SeamTests::bounds);
        tests.run("promises 9 and 10: a mismatch in one size alone", SeamTests::oneSize);
    }

    private static GarmentMarker twoPieces() {
        GarmentMarker x = new GarmentMarker();
        x.definePiece(0, 4, 6, 1, 2, 1);
        x.definePiece(5, 7, 9, 3, 0, 1);
        return x;
    }

    private static void add(Tests t) {
        GarmentMarker x = twoPieces();
        int[] undefined = {1, 4, -1, 6, Integer.MIN_VALUE, Integer.MAX_VALUE};
        for (int piece : undefined) {
            t.due("first " + piece, x.addSeam(piece, 2, 0, 0, 4), -1001);
            t.due("second " + piece, x.addSeam(0, 0, piece, -1, -4), -1001);
        }
        int[] noSides = {-1, 2, Integer.MIN_VALUE, Integer.MAX_VALUE};
        for (int side : noSides) {
            t.due("first side " + side, x.addSeam(0, side, 5, 0, 0), -1005);
            t.due("second side " + side, x.addSeam(0, 0, 5, side, 0), -1005);
        }
        int[] noEases = {-4, 4, Integer.MIN_VALUE, Integer.MAX_VALUE};
        for (int ease : noEases) {
            t.due("ease " + ease, x.addSeam(0, 0, 5, 0, ease), -1005);
        }
        t.due("seamCount()", x.seamCount(), 0);
        t.due("ease -3", x.addSeam(0, 0, 5, 1, -3), 0);
        t.due("ease 3", x.addSeam(5, 1, 0, 0, 3), 1);
        t.due("the same side twice", x.addSeam(5, 1, 5, 1, 0), 2);
    }

    private static void tooMany(Tests t) {
        GarmentMarker x = twoPieces();
        for (int seam = 0; seam < 6; seam++) {
            t.due("addSeam", x.addSeam(0, 0, 5, 0, 0), seam);
        }
        t.due("the seventh", x.addSeam(0, 0, 5, 0, 0), -1006);
        t.due("the seventh with a wrong side", x.addSeam(0, 2, 5, 0, 0), -1005);
        t.due("the seventh with a wrong ease", x.addSeam(0, 0, 5, 0, 4), -1005);
        t.due("the seventh with no piece", x.addSeam(0, 0, 1, 0, 0), -1001);
        t.due("seamCount()", x.seamCount(), 6);
    }

    private static void count(Tests t) {
        GarmentMarker x = twoPieces();
        t.due("seamCount()", x.seamCount(), 0);
        x.addSeam(0, 0, 0, 0, 0);
        t.due("seamCount()", x.seamCount(), 1);
        x.addSeam(0, 0, 5, 0, 0);
        t.due("seamCount()", x.seamCount(), 2);
        x.removePiece(5);
        t.due("seamCount()", x.seamCount(), 1);
    }

    private static void difference(Tests t) {
        GarmentMarker x = twoPieces();
        x.addSeam(0, 0, 5, 0, 0);
        x.addSeam(5, 1, 0, 1, 2);
        x.addSeam(0, 1, 0, 0, -3);
        int[][] due = {{-3, -5, -7}, {1, -1, -3}, {5, 6, 7}};
        for (int seam = 0; seam < 3; seam++) {
            for (int size = 0; size < 3; size++) {
                t.due("seamDifference(" + seam + ", " + size + ")", x.seamDifference(seam, size),
                        due[seam][size]);
            }
        }
    }

    private static void differenceErrors(Tests t) {
        GarmentMarker x = twoPieces();
        t.due("no seam", x.seamDifference(0, 0), -1003);
        x.addSeam(0, 0, 5, 0, 0);
        int[] noSeams = {-1, 1, 6, Integer.MIN_VALUE, Integer.MAX_VALUE};
        int[] noSizes = {-1, 3, Integer.MIN_VALUE, Integer.MAX_VALUE};
        for (int seam : noSeams) {
            t.due("seam " + seam, x.seamDifference(seam, 0), -1003);
            t.due("seam " + seam + ", size 3", x.seamDifference(seam, 3), -1003);
        }
        for (int size : noSizes) {
            t.due("size " + size, x.seamDifference(0, size), -1002);
        }
    }

    private static void matching(Tests t) {
        GarmentMarker x = twoPieces();
        t.due("matchingSeams() without seams", x.matchingSeams(), 0);
        t.due("firstMismatch() without seams", x.firstMismatch(), -1010);
        x.addSeam(0, 0, 0, 0, 0);
        x.addSeam(5, 1, 5, 1, 0);
        t.due("matchingSeams()", x.matchingSeams(), 2);
        t.due("firstMismatch()", x.firstMismatch(), -1010);
        x.addSeam(0, 0, 0, 0, 1);
        x.addSeam(0, 1, 0, 1, 0);
        x.addSeam(0, 0, 0, 0, -1);
        t.due("matchingSeams()", x.matchingSeams(), 3);
        t.due("firstMismatch()", x.firstMismatch(), 2);
    }

    private static void bounds(Tests t) {
        GarmentMarker x = twoPieces();
        for (int seam = 0; seam < 6; seam++) {
            x.addSeam(seam < 3 ? 0 : 5, 0, seam < 3 ? 0 : 5, 0, seam < 3 ? 0 : 1);
        }
        t.due("matchingSeams() of six", x.matchingSeams(), 3);
        t.due("firstMismatch() of six", x.firstMismatch(), 3);
        x.removePiece(5);
        t.due("matchingSeams() without the removed", x.matchingSeams(), 3);
        t.due("firstMismatch() without the removed", x.firstMismatch(), -1010);
        for (int seam = 3; seam < 6; seam++) {
            x.addSeam(0, 0, 0, 0, 0);
        }
        t.due("matchingSeams() of six equal", x.matchingSeams(), 6);
        t.due("firstMismatch() of six equal", x.firstMismatch(), -1010);
        x.removePiece(0);
        t.due("matchingSeams() after all are removed", x.matchingSeams(), 0);
        t.due("firstMismatch() after all are removed", x.firstMismatch(), -1010);
    }

    private static void oneSize(Tests t) {
        GarmentMarker x = new GarmentMarker();
        x.definePiece(0, 4, 4, 0, 1, 1);
        x.addSeam(0, 0, 0, 1, 0);
        t.due("seamDifference(0, 0)", x.seamDifference(0, 0), 0);
        t.due("matchingSeams(), size 0 alone matches", x.matchingSeams(), 0);
        t.due("firstMismatch(), size 0 alone matches", x.firstMismatch(), 0);
        x.definePiece(0, 4, 6, 1, 0, 1);
        t.due("seamDifference(0, 2)", x.seamDifference(0, 2), 0);
        t.due("matchingSeams(), size 2 alone matches", x.matchingSeams(), 0);
        t.due("firstMismatch(), size 2 alone matches", x.firstMismatch(), 0);
    }
}
