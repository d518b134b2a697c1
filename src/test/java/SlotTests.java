/** Promises 38 and 39: save and restore. */
final class SlotTests {
    private SlotTests() {
    }

    static void runAll(Tests tests) {
        tests.run("promises 38 and 39: their errors", SlotTests::errors);
        tests.run("promises 38 and 39: the whole state", SlotTests::wholeState);
        tests.run("promises 38 and 39: two slots", SlotTests::twoSlots);
        tests.run("promise 38: save overwrites", SlotTests::overwrite);
        tests.run("promise 39: the slot keeps what it holds", SlotTests::keeps);
    }

    private static void errors(Tests t) {
        GarmentMarker x = new GarmentMarker();
        int[] noSlots = {-1, 2, Integer.MIN_VALUE, Integer.MAX_VALUE};
        for (int slot : noSlots) {
            t.due("save(" + slot + ")", x.save(slot), -1005);
            t.due("restore(" + slot + ")", x.restore(slot), -1005);
        }
        t.due("restore(0)", x.restore(0), -1011);
        t.due("restore(1)", x.restore(1), -1011);
        t.due("save(1)", x.save(1), 1);
        t.due("restore(0)", x.restore(0), -1011);
        t.due("restore(1)", x.restore(1), 1);
        x.definePiece(0, 3, 3, 0, 0, 1);
        t.due("restore(0)", x.restore(0), -1011);
        t.due("pieceWidth(0, 0) after NOT_SAVED", x.pieceWidth(0, 0), 3);
    }

    private static void fill(GarmentMarker x) {
        x.definePiece(0, 6, 8, 1, 2, 2);
        x.definePiece(3, 2, 3, 3, 1, 1);
        x.addSeam(0, 0, 3, 1, -2);
        x.addSeam(3, 0, 3, 1, 1);
        x.setRatio(0, 2);
        x.setRatio(1, 1);
        x.setRatio(2, 1);
        x.setOrdered(0, 9);
        x.setOrdered(1, 8);
        x.setOrdered(2, 7);
        x.setClothWidth(23);
        x.setFolded(true);
        x.setRotation(true);
        x.setPacking(1, 2);
    }

    private static void change(GarmentMarker x) {
        x.removePiece(0);
        x.definePiece(3, 1, 1, 0, 0, 2);
        x.definePiece(5, 4, 4, 0, 0, 2);
        x.addSeam(5, 1, 5, 0, 3);
        for (int size = 0; size < 3; size++) {
            x.setRatio(size, 0);
            x.setOrdered(size, 1);
        }
        x.setClothWidth(5);
        x.setFolded(false);
        x.setRotation(false);
        x.setPacking(0, 3);
    }

    private static void isFilled(Tests t, GarmentMarker x) {
        t.due("pieceWidth(0, 2)", x.pieceWidth(0, 2), 8);
        t.due("pieceLength(0, 2)", x.pieceLength(0, 2), 12);
        t.due("pieceWidth(3, 1)", x.pieceWidth(3, 1), 5);
        t.due("pieceLength(3, 1)", x.pieceLength(3, 1), 4);
        t.due("pieceWidth(5, 0)", x.pieceWidth(5, 0), -1001);
        t.due("seamCount()", x.seamCount(), 2);
        t.due("seamDifference(0, 1)", x.seamDifference(0, 1), 5);
        t.due("seamDifference(1, 2)", x.seamDifference(1, 2), 2);
        t.due("partCount()", x.partCount(), 8);
        t.due("foldPartCount()", x.foldPartCount(), 4);
        t.due("ratio(0)", x.ratio(0), 2);
        t.due("ratio(1)", x.ratio(1), 1);
        t.due("ratio(2)", x.ratio(2), 1);
        t.due("setOrdered(0, 9)", x.setOrdered(0, 9), 9);
        t.due("setOrdered(1, 8)", x.setOrdered(1, 8), 8);
        t.due("setOrdered(2, 7)", x.setOrdered(2, 7), 7);
        t.due("setClothWidth(23)", x.setClothWidth(23), 23);
        t.due("setFolded(true)", x.setFolded(true), true);
        t.due("setRotation(true)", x.setRotation(true), true);
        t.due("setPacking(1, 2)", x.setPacking(1, 2), 12);
    }

    private static void wholeState(Tests t) {
        for (int slot = 0; slot < 2; slot++) {
            GarmentMarker x = new GarmentMarker();
            fill(x);
            t.due("save", x.save(slot), 1);
            isFilled(t, x);
            change(x);
            t.due("restore", x.restore(slot), 1);
            isFilled(t, x);
        }
    }

    private static void twoSlots(Tests t) {
        GarmentMarker x = new GarmentMarker();
        x.save(0);
        fill(x);
        x.save(1);
        x.restore(0);
        t.due("restored, a new object", x.pieceWidth(0, 0), -1001);
        t.due("seamCount()", x.seamCount(), 0);
        t.due("restore(1) is another slot", x.restore(1), 1);
        isFilled(t, x);
        x.restore(0);
        t.due("restore(0) again", x.partCount(), 0);
        t.due("ratio(0)", x.ratio(0), 1);
    }

    private static void overwrite(Tests t) {
        GarmentMarker x = new GarmentMarker();
        x.setClothWidth(20);
        x.save(0);
        x.setClothWidth(21);
        x.save(0);
        x.setClothWidth(22);
        x.restore(0);
        t.due("setClothWidth(5)", x.setClothWidth(5), 21);
    }

    private static void keeps(Tests t) {
        GarmentMarker x = new GarmentMarker();
        fill(x);
        x.save(0);
        for (int again = 0; again < 3; again++) {
            change(x);
            t.due("restore(0)", x.restore(0), 1);
            isFilled(t, x);
        }
        x.definePiece(0, 12, 12, 0, 0, 1);
        x.setRatio(0, 0);
        x.applyBestMix();
        x.removePiece(3);
        x.restore(0);
        isFilled(t, x);
    }
}
