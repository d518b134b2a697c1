import java.util.function.ToIntFunction;

/**
 * Each argument of each promise at the ends of its range and beside them: a value within is taken
 * as it is, a value outside is answered by the error due, and changes nothing.
 */
final class RangeTests {
    private static final int NO_SUCH_PIECE = -1001, NO_SUCH_SIZE = -1002, NO_SUCH_SEAM = -1003,
            NO_SUCH_PART = -1004, OUT_OF_RANGE = -1005;
    private static final Start[] ALL = Start.values();
    /** Those in which the pieces 0, 2 and 5 are defined. */
    private static final Start[] WITH_PIECES = {Start.MIDDLE, Start.FULL, Start.NARROW,
        Start.NO_PLIES};
    private static final Start[] SIX_SEAMS = {Start.FULL, Start.NARROW, Start.NO_PLIES};
    private static final Start[] MIDDLE = {Start.MIDDLE};

    /** A call with the argument in question; the others are right. */
    private interface Call {
        int answer(GarmentMarker x, int value);
    }

    private final Tests tests;

    private RangeTests(Tests tests) {
        this.tests = tests;
    }

    static void runAll(Tests tests) {
        RangeTests ranges = new RangeTests(tests);
        ranges.definePiece();
        ranges.removePiece();
        ranges.sides();
        ranges.addSeam();
        ranges.seamDifference();
        ranges.settings();
        ranges.parts();
        ranges.packings();
        ranges.slots();
    }

    /** For a setter that needs the pieces 0, 2 and 5 at most; 'read' tells what it set. */
    private void set(String argument, int least, int most, int error, Call call,
            ToIntFunction<GarmentMarker> read) {
        tests.run(argument + " is " + least + " to " + most, t -> {
            for (int value = least; value <= most; value++) {
                GarmentMarker x = Start.MIDDLE.make();
                isNoError(t, argument + " = " + value, call.answer(x, value));
                t.due(argument + " = " + value + " is set as", read.applyAsInt(x), value);
            }
            refuseBeside(t, WITH_PIECES, argument, least, most, error, call);
        });
    }

    /** For a call that can be made again and again on the start in which it is tried. */
    private void ask(Start tried, Start[] refusing, String argument, int most, int error,
            Call call) {
        tests.run(argument + " is 0 to " + most, t -> {
            GarmentMarker x = tried.make();
            for (int value = 0; value <= most; value++) {
                isNoError(t, argument + " = " + value, call.answer(x, value));
            }
            refuseBeside(t, refusing, argument, 0, most, error, call);
        });
    }

    private static void isNoError(Tests t, String what, int answer) {
        if (answer <= NO_SUCH_PIECE) {
            t.fail(what + " answered the error " + answer);
        }
    }

    private static void refuseBeside(Tests t, Start[] starts, String argument, int least, int most,
            int error, Call call) {
        int[] outside = {least - 1, most + 1, least - 2, most + 2, -most - 1, Integer.MIN_VALUE,
            Integer.MAX_VALUE};
        for (Start start : starts) {
            for (int value : outside) {
                start.unchanged(t, argument + " = " + value, x -> call.answer(x, value), error);
            }
        }
    }

    private void definePiece() {
        ask(Start.MIDDLE, ALL, "promise 2: piece", 5, NO_SUCH_PIECE,
                (x, v) -> x.definePiece(v, 3, 4, 1, 2, 1));
        set("promise 2: width", 1, 12, OUT_OF_RANGE,
                (x, v) -> x.definePiece(0, v, 4, 1, 2, 1), x -> x.pieceWidth(0, 0));
        set("promise 2: length", 1, 12, OUT_OF_RANGE,
                (x, v) -> x.definePiece(0, 3, v, 1, 2, 1), x -> x.pieceLength(0, 0));
        set("promise 2: widthGrowth", 0, 3, OUT_OF_RANGE,
                (x, v) -> x.definePiece(0, 3, 4, v, 2, 1), x -> x.pieceWidth(0, 1) - 3);
        set("promise 2: lengthGrowth", 0, 3, OUT_OF_RANGE,
                (x, v) -> x.definePiece(0, 3, 4, 1, v, 1), x -> x.pieceLength(0, 1) - 4);
        set("promise 2: copies", 1, 2, OUT_OF_RANGE,
                (x, v) -> x.definePiece(0, 3, 4, 1, 2, v), RangeTests::copiesOfPiece0);
    }

    private static int copiesOfPiece0(GarmentMarker x) {
        x.removePiece(2);
        x.removePiece(5);
        x.setFolded(false);
        return x.partCount() / (x.ratio(0) + x.ratio(1) + x.ratio(2));
    }

    private void removePiece() {
        tests.run("promise 3: piece is 0 to 5", t -> {
            for (int piece = 0; piece <= 5; piece++) {
                isNoError(t, "removePiece(" + piece + ")", Start.FULL.make().removePiece(piece));
            }
            refuseBeside(t, ALL, "promise 3: piece", 0, 5, NO_SUCH_PIECE,
                    (x, v) -> x.removePiece(v));
        });
    }

    private void sides() {
        ask(Start.FULL, ALL, "promise 4: piece", 5, NO_SUCH_PIECE, (x, v) -> x.pieceWidth(v, 1));
        ask(Start.FULL, WITH_PIECES, "promise 4: size", 2, NO_SUCH_SIZE,
                (x, v) -> x.pieceWidth(5, v));
        ask(Start.FULL, ALL, "promise 5: piece", 5, NO_SUCH_PIECE, (x, v) -> x.pieceLength(v, 1));
        ask(Start.FULL, WITH_PIECES, "promise 5: size", 2, NO_SUCH_SIZE,
                (x, v) -> x.pieceLength(5, v));
    }

    private void addSeam() {
        tests.run("promise 6: firstPiece is 0 to 5", t -> pieceOfSeam(t, "firstPiece",
                (x, v) -> x.addSeam(v, 0, 5, 1, 2)));
        tests.run("promise 6: secondPiece is 0 to 5", t -> pieceOfSeam(t, "secondPiece",
                (x, v) -> x.addSeam(5, 0, v, 1, 2)));
        set("promise 6: firstSide", 0, 1, OUT_OF_RANGE,
                (x, v) -> x.addSeam(0, v, 2, 0, 0), x -> (x.seamDifference(3, 0) - 3) / 2);
        set("promise 6: secondSide", 0, 1, OUT_OF_RANGE,
                (x, v) -> x.addSeam(0, 0, 2, v, 0), x -> (3 - x.seamDifference(3, 0)) / 2);
        set("promise 6: ease", -3, 3, OUT_OF_RANGE,
                (x, v) -> x.addSeam(0, 0, 0, 0, v), x -> -x.seamDifference(3, 2));
    }

    private static void pieceOfSeam(Tests t, String argument, Call call) {
        for (int piece = 0; piece <= 5; piece++) {
            GarmentMarker x = Start.FULL.make();
            x.removePiece(1);
            x.definePiece(1, 1, 1, 0, 0, 1);
            isNoError(t, argument + " = " + piece, call.answer(x, piece));
        }
        refuseBeside(t, WITH_PIECES, argument, 0, 5, NO_SUCH_PIECE, call);
    }

    private void seamDifference() {
        ask(Start.FULL, ALL, "promise 8: seam", 5, NO_SUCH_SEAM, (x, v) -> x.seamDifference(v, 1));
        ask(Start.MIDDLE, MIDDLE, "promise 8: seam of three", 2, NO_SUCH_SEAM,
                (x, v) -> x.seamDifference(v, 1));
        ask(Start.FULL, SIX_SEAMS, "promise 8: size", 2, NO_SUCH_SIZE,
                (x, v) -> x.seamDifference(5, v));
    }

    private void settings() {
        ask(Start.MIDDLE, ALL, "promise 11: size", 2, NO_SUCH_SIZE, (x, v) -> x.setRatio(v, 1));
        ask(Start.MIDDLE, ALL, "promise 12: size", 2, NO_SUCH_SIZE, (x, v) -> x.ratio(v));
        ask(Start.MIDDLE, ALL, "promise 30: size", 2, NO_SUCH_SIZE, (x, v) -> x.setOrdered(v, 7));
        for (int size = 0; size < 3; size++) {
            int s = size;
            set("promise 11: count of size " + size, 0, 2, OUT_OF_RANGE,
                    (x, v) -> x.setRatio(s, v), x -> x.ratio(s));
            set("promise 30: count of size " + size, 0, 99, OUT_OF_RANGE,
                    (x, v) -> x.setOrdered(s, v), x -> x.setOrdered(s, 0));
        }
        set("promise 13: width", 4, 24, OUT_OF_RANGE,
                (x, v) -> x.setClothWidth(v), x -> x.setClothWidth(12));
    }

    private void parts() {
        part("promise 19", (x, v) -> x.partSize(v));
        part("promise 20", (x, v) -> x.partPiece(v));
        part("promise 21", (x, v) -> x.partAlong(v));
        part("promise 22", (x, v) -> x.partAcross(v));
        part("promise 23", (x, v) -> x.partAlongExtent(v));
        part("promise 24", (x, v) -> x.partAcrossExtent(v));
    }

    /** Of 72 parts, of the nine on folded cloth, and of none. */
    private void part(String promise, Call call) {
        ask(Start.FULL, ALL, promise + ": part of 72", 71, NO_SUCH_PART, call);
        ask(Start.MIDDLE, MIDDLE, promise + ": part of 9", 8, NO_SUCH_PART, call);
        tests.run(promise + ": part of none", t -> {
            int[] values = {0, 1, -1, 71, 72, Integer.MIN_VALUE, Integer.MAX_VALUE};
            for (int value : values) {
                Start.NEW.unchanged(t, promise + ": part = " + value, x -> call.answer(x, value),
                        NO_SUCH_PART);
            }
        });
    }

    private void packings() {
        set("promise 16: method", 0, 1, OUT_OF_RANGE,
                (x, v) -> x.setPacking(v, 3), x -> x.setPacking(0, 0) / 10);
        set("promise 16: order", 0, 3, OUT_OF_RANGE,
                (x, v) -> x.setPacking(0, v), x -> x.setPacking(0, 0) % 10);
        ask(Start.MIDDLE, ALL, "promise 27: method", 1, OUT_OF_RANGE,
                (x, v) -> x.markerLengthWith(v, 3));
        ask(Start.MIDDLE, ALL, "promise 27: order", 3, OUT_OF_RANGE,
                (x, v) -> x.markerLengthWith(1, v));
    }

    private void slots() {
        ask(Start.MIDDLE, ALL, "promise 38: slot", 1, OUT_OF_RANGE, (x, v) -> x.save(v));
        ask(Start.FULL, ALL, "promise 39: slot", 1, OUT_OF_RANGE, (x, v) -> x.restore(v));
    }
}
