/** Promises 11 to 16: ratios, cloth, folding, rotation and packing as settings. */
final class SettingTests {
    private static final int[] NO_SIZES = {-1, 3, Integer.MIN_VALUE, Integer.MAX_VALUE};

    private SettingTests() {
    }

    static void runAll(Tests tests) {
        tests.run("promises 11 and 12: setRatio and ratio", SettingTests::ratios);
        tests.run("promise 11: setRatio, its errors", SettingTests::ratioErrors);
        tests.run("promise 12: ratio, its errors", SettingTests::noRatio);
        tests.run("promise 13: setClothWidth", SettingTests::clothWidth);
        tests.run("promise 14: setFolded", SettingTests::folded);
        tests.run("promise 15: setRotation", SettingTests::rotation);
        tests.run("promise 16: setPacking", SettingTests::packing);
    }

    private static void ratios(Tests t) {
        GarmentMarker x = new GarmentMarker();
        t.due("setRatio(0, 2)", x.setRatio(0, 2), 1);
        t.due("setRatio(1, 1)", x.setRatio(1, 1), 0);
        t.due("setRatio(2, 2)", x.setRatio(2, 2), 0);
        t.due("setRatio(0, 0)", x.setRatio(0, 0), 2);
        t.due("setRatio(1, 0)", x.setRatio(1, 0), 1);
        t.due("ratio(0)", x.ratio(0), 0);
        t.due("ratio(1)", x.ratio(1), 0);
        t.due("ratio(2)", x.ratio(2), 2);
        x.definePiece(4, 1, 1, 0, 0, 1);
        t.due("partCount()", x.partCount(), 2);
    }

    private static void ratioErrors(Tests t) {
        GarmentMarker x = new GarmentMarker();
        for (int size : NO_SIZES) {
            t.due("setRatio(" + size + ", 1)", x.setRatio(size, 1), -1002);
            t.due("setRatio(" + size + ", 3)", x.setRatio(size, 3), -1002);
        }
        int[] wrong = {-1, 3, Integer.MIN_VALUE, Integer.MAX_VALUE};
        for (int count : wrong) {
            t.due("setRatio(0, " + count + ")", x.setRatio(0, count), -1005);
        }
        t.due("ratio(0)", x.ratio(0), 1);
    }

    private static void noRatio(Tests t) {
        GarmentMarker x = new GarmentMarker();
        for (int size : NO_SIZES) {
            t.due("ratio(" + size + ")", x.ratio(size), -1002);
        }
    }

    private static void clothWidth(Tests t) {
        GarmentMarker x = new GarmentMarker();
        int[] wrong = {3, 25, 0, -12, Integer.MIN_VALUE, Integer.MAX_VALUE};
        for (int width : wrong) {
            t.due("setClothWidth(" + width + ")", x.setClothWidth(width), -1005);
        }
        t.due("setClothWidth(4)", x.setClothWidth(4), 12);
        t.due("setClothWidth(24)", x.setClothWidth(24), 4);
        t.due("setClothWidth(25)", x.setClothWidth(25), -1005);
        t.due("setClothWidth(9)", x.setClothWidth(9), 24);
        x.definePiece(0, 9, 1, 0, 0, 1);
        t.due("markerLength() 9 of 9 wide", x.markerLength(), 1);
        x.setClothWidth(8);
        t.due("markerLength() 9 of 8 wide", x.markerLength(), -1007);
    }

    private static void folded(Tests t) {
        GarmentMarker x = new GarmentMarker();
        t.due("setFolded(false)", x.setFolded(false), false);
        t.due("setFolded(true)", x.setFolded(true), false);
        t.due("setFolded(true)", x.setFolded(true), true);
        t.due("setFolded(false)", x.setFolded(false), true);
        x.definePiece(0, 3, 1, 0, 0, 2);
        t.due("partCount() open", x.partCount(), 2);
        x.setFolded(true);
        t.due("partCount() folded", x.partCount(), 1);
    }

    private static void rotation(Tests t) {
        GarmentMarker x = new GarmentMarker();
        t.due("setRotation(false)", x.setRotation(false), false);
        t.due("setRotation(true)", x.setRotation(true), false);
        t.due("setRotation(true)", x.setRotation(true), true);
        t.due("setRotation(false)", x.setRotation(false), true);
        x.definePiece(0, 3, 5, 0, 0, 1);
        t.due("markerLength()", x.markerLength(), 5);
        x.setRotation(true);
        t.due("markerLength() turned", x.markerLength(), 3);
    }

    private static void packing(Tests t) {
        GarmentMarker x = new GarmentMarker();
        t.due("setPacking(0, 3)", x.setPacking(0, 3), 0);
        t.due("setPacking(1, 2)", x.setPacking(1, 2), 3);
        int[] noMethods = {-1, 2, Integer.MIN_VALUE, Integer.MAX_VALUE};
        int[] noOrders = {-1, 4, Integer.MIN_VALUE, Integer.MAX_VALUE};
        for (int method : noMethods) {
            t.due("setPacking(" + method + ", 0)", x.setPacking(method, 0), -1005);
        }
        for (int order : noOrders) {
            t.due("setPacking(0, " + order + ")", x.setPacking(0, order), -1005);
        }
        t.due("setPacking(1, 1)", x.setPacking(1, 1), 12);
        t.due("setPacking(0, 0)", x.setPacking(0, 0), 11);
    }
}
