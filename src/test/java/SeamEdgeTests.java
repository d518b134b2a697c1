/** The sentences of the document's description about pieces and seams, each with a test. */
final class SeamEdgeTests {
    private SeamEdgeTests() {
    }

    static void runAll(Tests tests) {
        tests.run("pieces: at first none is defined", SeamEdgeTests::noPiece);
        tests.run("pieces: up to six, defined in any order", SeamEdgeTests::sixPieces);
        tests.run("pieces: one that was removed can be defined anew", SeamEdgeTests::anew);
        tests.run("pieces: a side is the base plus size times growth", SeamEdgeTests::growth);
        tests.run("pieces: one copy or two", SeamEdgeTests::copies);
        tests.run("seams: each side to each side of another piece", SeamEdgeTests::twoPieces);
        tests.run("seams: each side to each side of one piece", SeamEdgeTests::onePiece);
        tests.run("seams: the ease is taken away", SeamEdgeTests::ease);
        tests.run("seams: a seam matches if its difference is 0", SeamEdgeTests::matches);
        tests.run("seams: a match in one size is none in all", SeamEdgeTests::oneSize);
        tests.run("seams: without seams none matches and none differs", SeamEdgeTests::noSeam);
        tests.run("seams: the first mismatch is the first seam's", t -> mismatchAt(t, 0));
        tests.run("seams: the first mismatch is a middle seam's", t -> mismatchAt(t, 3));
        tests.run("seams: the first mismatch is the sixth seam's", t -> mismatchAt(t, 5));
        tests.run("seams: all six match", SeamEdgeTests::allMatch);
        tests.run("seams: the sixth is added, the seventh is not", SeamEdgeTests::seventh);
        tests.run("seams: of six, one makes room when it goes", SeamEdgeTests::roomAgain);
        tests.run("seams: they are indexed in the order they were added", SeamEdgeTests::indices);
        tests.run("seams: they follow a piece that is defined anew", SeamEdgeTests::replaced);
        tests.run("removal: the first seam goes", t -> removal(t, 0));
        tests.run("removal: a middle seam goes", t -> removal(t, 3));
        tests.run("removal: the last seam goes", t -> removal(t, 5));
        tests.run("removal: a seam of the piece with itself goes", SeamEdgeTests::selfSeam);
        tests.run("removal: a seam that uses the piece second goes", SeamEdgeTests::secondUse);
        tests.run("removal: no seam goes", SeamEdgeTests::noneGoes);
        tests.run("removal: all seams go", SeamEdgeTests::allGo);
        tests.run("removal: the seams do not come back with the piece", SeamEdgeTests::notBack);
        tests.run("removal: of a piece that is not defined", SeamEdgeTests::notDefined);
    }

    private static void noPiece(Tests t) {
        for (int piece = 0; piece < 6; piece++) {
            GarmentMarker x = new GarmentMarker();
            t.due("pieceWidth(" + piece + ", 0)", x.pieceWidth(piece, 0), -1001);
            t.due("pieceLength(" + piece + ", 2)", x.pieceLength(piece, 2), -1001);
            t.due("removePiece(" + piece + ")", x.removePiece(piece), -1001);
            t.due("addSeam", x.addSeam(piece, 0, piece, 0, 0), -1001);
            t.due("definePiece(" + piece + ")", x.definePiece(piece, 1, 1, 0, 0, 1), 1);
        }
    }

    private static void sixPieces(Tests t) {
        GarmentMarker x = new GarmentMarker();
        int[] order = {3, 5, 0, 4, 1, 2};
        for (int i = 0; i < 6; i++) {
            t.due("definePiece(" + order[i] + ")",
                    x.definePiece(order[i], order[i] + 1, 1, 0, 0, 1), i + 1);
        }
        t.due("one of six anew", x.definePiece(5, 12, 1, 0, 0, 1), 6);
        t.due("a seventh", x.definePiece(6, 1, 1, 0, 0, 1), -1001);
        for (int piece = 0; piece < 6; piece++) {
            t.due("pieceWidth(" + piece + ", 0)", x.pieceWidth(piece, 0),
                    piece == 5 ? 12 : piece + 1);
            t.due("partPiece(" + piece + ")", x.partPiece(piece), piece);
        }
        t.due("partPiece(6)", x.partPiece(6), -1004);
    }

    private static void anew(Tests t) {
        GarmentMarker x = new GarmentMarker();
        x.definePiece(2, 9, 8, 3, 2, 2);
        x.definePiece(4, 1, 1, 0, 0, 1);
        x.removePiece(2);
        t.due("pieceWidth(2, 1) of none", x.pieceWidth(2, 1), -1001);
        t.due("definePiece(2)", x.definePiece(2, 3, 4, 1, 0, 1), 2);
        t.due("pieceWidth(2, 2)", x.pieceWidth(2, 2), 5);
        t.due("pieceLength(2, 2)", x.pieceLength(2, 2), 4);
        t.due("partCount()", x.partCount(), 2);
    }

    private static void growth(Tests t) {
        GarmentMarker x = new GarmentMarker();
        int[] bases = {1, 2, 11, 12};
        for (int base : bases) {
            for (int growth = 0; growth <= 3; growth++) {
                x.definePiece(0, base, 13 - base, growth, 3 - growth, 1);
                String piece = base + " wide, growing by " + growth + ", in size ";
                t.due(piece + 0, x.pieceWidth(0, 0), base);
                t.due(piece + 1, x.pieceWidth(0, 1), base + growth);
                t.due(piece + 2, x.pieceWidth(0, 2), base + growth + growth);
                t.due(piece + "0, length", x.pieceLength(0, 0), 13 - base);
                t.due(piece + "1, length", x.pieceLength(0, 1), 13 - base + 3 - growth);
                t.due(piece + "2, length", x.pieceLength(0, 2), 13 - base + 6 - 2 * growth);
            }
        }
    }

    private static void copies(Tests t) {
        GarmentMarker x = new GarmentMarker();
        x.definePiece(0, 1, 1, 0, 0, 1);
        t.due("one copy", x.partCount(), 1);
        x.definePiece(0, 1, 1, 0, 0, 2);
        t.due("two copies", x.partCount(), 2);
        x.setRatio(0, 2);
        t.due("two copies, two garments", x.partCount(), 4);
    }

    private static GarmentMarker pair() {
        GarmentMarker x = new GarmentMarker();
        x.definePiece(0, 4, 7, 1, 2, 1);
        x.definePiece(1, 5, 9, 3, 0, 1);
        return x;
    }

    private static void twoPieces(Tests t) {
        GarmentMarker x = pair();
        x.addSeam(0, 0, 1, 0, 0);
        x.addSeam(0, 0, 1, 1, 0);
        x.addSeam(0, 1, 1, 0, 0);
        x.addSeam(0, 1, 1, 1, 0);
        x.addSeam(1, 0, 0, 0, 0);
        x.addSeam(1, 1, 0, 0, 0);
        differences(t, x, new int[][] {{-1, -3, -5}, {-5, -4, -3}, {2, 1, 0}, {-2, 0, 2},
            {1, 3, 5}, {5, 4, 3}});
    }

    private static void onePiece(Tests t) {
        GarmentMarker x = pair();
        x.addSeam(0, 0, 0, 0, 0);
        x.addSeam(0, 0, 0, 1, 0);
        x.addSeam(0, 1, 0, 0, 0);
        x.addSeam(0, 1, 0, 1, 0);
        differences(t, x, new int[][] {{0, 0, 0}, {-3, -4, -5}, {3, 4, 5}, {0, 0, 0}});
    }

    private static void differences(Tests t, GarmentMarker x, int[][] due) {
        t.due("seamCount()", x.seamCount(), due.length);
        for (int seam = 0; seam < due.length; seam++) {
            for (int size = 0; size < 3; size++) {
                t.due("seamDifference(" + seam + ", " + size + ")", x.seamDifference(seam, size),
                        due[seam][size]);
            }
        }
    }

    private static void ease(Tests t) {
        for (int ease = -3; ease <= 3; ease++) {
            GarmentMarker x = pair();
            x.addSeam(0, 1, 1, 1, ease);
            differences(t, x, new int[][] {{-2 - ease, -ease, 2 - ease}});
        }
    }

    private static void matches(Tests t) {
        for (int ease = -3; ease <= 3; ease++) {
            GarmentMarker x = pair();
            x.addSeam(0, 0, 0, 0, ease);
            t.due("matchingSeams(), differing by " + -ease, x.matchingSeams(), ease == 0 ? 1 : 0);
            t.due("firstMismatch(), differing by " + -ease, x.firstMismatch(),
                    ease == 0 ? -1010 : 0);
        }
    }

    private static void oneSize(Tests t) {
        for (int size = 0; size < 3; size++) {
            GarmentMarker x = new GarmentMarker();
            x.definePiece(0, 6 - size, 6, 1, 0, 1);
            x.addSeam(0, 0, 0, 1, 0);
            t.due("seamDifference(0, " + size + ")", x.seamDifference(0, size), 0);
            t.due("matchingSeams(), a match in size " + size, x.matchingSeams(), 0);
            t.due("firstMismatch(), a match in size " + size, x.firstMismatch(), 0);
        }
    }

    private static void noSeam(Tests t) {
        GarmentMarker x = new GarmentMarker();
        t.due("matchingSeams()", x.matchingSeams(), 0);
        t.due("firstMismatch()", x.firstMismatch(), -1010);
        t.due("seamCount()", x.seamCount(), 0);
        t.due("seamDifference(0, 0)", x.seamDifference(0, 0), -1003);
        Start.NEW.unchanged(t, "firstMismatch()", GarmentMarker::firstMismatch, -1010);
    }

    /** Six seams, of which that one and those behind it do not match. */
    private static void mismatchAt(Tests t, int first) {
        GarmentMarker x = pair();
        for (int seam = 0; seam < 6; seam++) {
            x.addSeam(1, 0, 1, 0, seam < first ? 0 : -1);
        }
        t.due("matchingSeams()", x.matchingSeams(), first);
        t.due("firstMismatch()", x.firstMismatch(), first);
    }

    /** Seams that were removed do not count either, though they did not match. */
    private static void allMatch(Tests t) {
        GarmentMarker x = pair();
        for (int seam = 0; seam < 6; seam++) {
            x.addSeam(seam / 3, 0, seam / 3, 0, seam / 3);
        }
        t.due("matchingSeams(), three of six", x.matchingSeams(), 3);
        x.removePiece(1);
        t.due("matchingSeams(), three of three", x.matchingSeams(), 3);
        t.due("firstMismatch(), three of three", x.firstMismatch(), -1010);
        for (int seam = 3; seam < 6; seam++) {
            x.addSeam(0, 1, 0, 1, 0);
        }
        t.due("matchingSeams(), six of six", x.matchingSeams(), 6);
        t.due("firstMismatch(), six of six", x.firstMismatch(), -1010);
        Start.NARROW.unchanged(t, "firstMismatch()", GarmentMarker::firstMismatch, -1010);
        Start.NARROW.unchanged(t, "matchingSeams()", GarmentMarker::matchingSeams, 6);
    }

    private static void seventh(Tests t) {
        GarmentMarker x = pair();
        for (int seam = 0; seam < 6; seam++) {
            t.due("addSeam", x.addSeam(0, 0, 0, 0, seam - 3), seam);
        }
        t.due("the seventh", x.addSeam(1, 1, 1, 0, 1), -1006);
        t.due("the seventh again", x.addSeam(1, 1, 1, 0, 1), -1006);
        int[][] due = new int[6][3];
        for (int seam = 0; seam < 6; seam++) {
            due[seam] = new int[] {3 - seam, 3 - seam, 3 - seam};
        }
        differences(t, x, due);
        for (Start start : new Start[] {Start.FULL, Start.NARROW, Start.NO_PLIES}) {
            start.unchanged(t, "a seventh seam", y -> y.addSeam(0, 1, 5, 0, 2), -1006);
        }
    }

    private static void roomAgain(Tests t) {
        GarmentMarker x = pair();
        x.addSeam(1, 0, 1, 0, 0);
        for (int seam = 1; seam < 6; seam++) {
            x.addSeam(0, 0, 0, 0, 0);
        }
        t.due("with six", x.addSeam(0, 0, 0, 0, 0), -1006);
        t.due("removePiece(1)", x.removePiece(1), 5);
        t.due("with five", x.addSeam(0, 0, 0, 0, 2), 5);
        t.due("with six again", x.addSeam(0, 0, 0, 0, 2), -1006);
        t.due("seamDifference(5, 0)", x.seamDifference(5, 0), -2);
    }

    private static void indices(Tests t) {
        GarmentMarker x = pair();
        t.due("first", x.addSeam(1, 0, 0, 0, 3), 0);
        t.due("second", x.addSeam(0, 0, 0, 0, -2), 1);
        t.due("third, equal to the first", x.addSeam(1, 0, 0, 0, 3), 2);
        differences(t, x, new int[][] {{-2, 0, 2}, {2, 2, 2}, {-2, 0, 2}});
    }

    private static void replaced(Tests t) {
        GarmentMarker x = pair();
        for (int seam = 0; seam < 6; seam++) {
            x.addSeam(0, seam % 2, 1, 0, 0);
        }
        t.due("definePiece(0)", x.definePiece(0, 5, 8, 3, 3, 2), 2);
        differences(t, x, new int[][] {{0, 0, 0}, {3, 3, 3}, {0, 0, 0}, {3, 3, 3}, {0, 0, 0},
            {3, 3, 3}});
        t.due("matchingSeams()", x.matchingSeams(), 3);
        t.due("firstMismatch()", x.firstMismatch(), 1);
    }

    /** Of six seams the one at that index uses the piece that is removed. */
    private static void removal(Tests t, int index) {
        GarmentMarker x = pair();
        int[][] due = new int[5][];
        for (int seam = 0; seam < 6; seam++) {
            int piece = seam == index ? 1 : 0;
            x.addSeam(piece, 0, piece, 0, seam - 3);
            int place = seam < index ? seam : seam - 1;
            if (seam != index) {
                due[place] = new int[] {3 - seam, 3 - seam, 3 - seam};
            }
        }
        t.due("removePiece(1)", x.removePiece(1), 5);
        differences(t, x, due);
        t.due("seamDifference(5, 0)", x.seamDifference(5, 0), -1003);
    }

    private static void selfSeam(Tests t) {
        GarmentMarker x = pair();
        x.addSeam(1, 0, 1, 1, 0);
        x.addSeam(0, 0, 0, 1, 0);
        t.due("removePiece(1)", x.removePiece(1), 1);
        differences(t, x, new int[][] {{-3, -4, -5}});
    }

    private static void secondUse(Tests t) {
        GarmentMarker x = pair();
        x.addSeam(0, 0, 1, 0, 0);
        x.addSeam(0, 0, 0, 1, 0);
        x.addSeam(1, 0, 0, 0, 0);
        t.due("removePiece(1)", x.removePiece(1), 1);
        differences(t, x, new int[][] {{-3, -4, -5}});
    }

    private static void noneGoes(Tests t) {
        GarmentMarker x = pair();
        x.definePiece(5, 1, 1, 0, 0, 1);
        x.addSeam(0, 0, 1, 0, 0);
        x.addSeam(0, 0, 0, 1, 0);
        t.due("removePiece(5)", x.removePiece(5), 2);
        differences(t, x, new int[][] {{-1, -3, -5}, {-3, -4, -5}});
    }

    private static void allGo(Tests t) {
        GarmentMarker x = pair();
        for (int seam = 0; seam < 6; seam++) {
            x.addSeam(seam % 2, 0, seam / 2 % 2, 0, 0);
        }
        t.due("removePiece(1)", x.removePiece(1), 2);
        t.due("removePiece(0)", x.removePiece(0), 0);
        t.due("seamCount()", x.seamCount(), 0);
        t.due("seamDifference(0, 0)", x.seamDifference(0, 0), -1003);
        t.due("firstMismatch()", x.firstMismatch(), -1010);
        t.due("matchingSeams()", x.matchingSeams(), 0);
    }

    private static void notBack(Tests t) {
        GarmentMarker x = pair();
        x.addSeam(0, 0, 1, 0, 0);
        x.removePiece(0);
        x.definePiece(0, 4, 7, 1, 2, 1);
        t.due("seamCount()", x.seamCount(), 0);
        t.due("addSeam", x.addSeam(0, 0, 1, 0, 1), 0);
    }

    private static void notDefined(Tests t) {
        Start.NEW.unchanged(t, "removePiece(0)", x -> x.removePiece(0), -1001);
        Start.MIDDLE.unchanged(t, "removePiece(1)", x -> x.removePiece(1), -1001);
        Start.TOO_WIDE.unchanged(t, "removePiece(5)", x -> x.removePiece(5), -1001);
        Start.NO_PLIES.unchanged(t, "removePiece(3)", x -> x.removePiece(3), -1001);
        GarmentMarker x = pair();
        t.due("removePiece(1)", x.removePiece(1), 0);
        t.due("removePiece(1) again", x.removePiece(1), -1001);
    }
}
