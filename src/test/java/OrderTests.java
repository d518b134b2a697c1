/** Promises 30 to 37: orders, plies and mixes. */
final class OrderTests {
    private OrderTests() {
    }

    static void runAll(Tests tests) {
        tests.run("promise 30: setOrdered", OrderTests::ordered);
        tests.run("promise 31: plies", OrderTests::plies);
        tests.run("promise 32: clothLength", OrderTests::clothLength);
        tests.run("promise 33: surplus", OrderTests::surplus);
        tests.run("promise 34: goodMixes", OrderTests::goodMixes);
        tests.run("promises 35 and 36: the least cloth", OrderTests::leastCloth);
        tests.run("promise 35: ties", OrderTests::ties);
        tests.run("promises 35 to 37: no good mix", OrderTests::noGoodMix);
        tests.run("promises 35 to 37: with the current packing", OrderTests::currentPacking);
        tests.run("promise 37: applyBestMix", OrderTests::apply);
    }

    private static void ordered(Tests t) {
        GarmentMarker x = new GarmentMarker();
        t.due("setOrdered(0, 99)", x.setOrdered(0, 99), 0);
        t.due("setOrdered(1, 7)", x.setOrdered(1, 7), 0);
        t.due("setOrdered(2, 1)", x.setOrdered(2, 1), 0);
        t.due("setOrdered(0, 0)", x.setOrdered(0, 0), 99);
        int[] noSizes = {-1, 3, Integer.MIN_VALUE, Integer.MAX_VALUE};
        for (int size : noSizes) {
            t.due("setOrdered(" + size + ", 5)", x.setOrdered(size, 5), -1002);
            t.due("setOrdered(" + size + ", 100)", x.setOrdered(size, 100), -1002);
        }
        int[] wrong = {-1, 100, Integer.MIN_VALUE, Integer.MAX_VALUE};
        for (int count : wrong) {
            t.due("setOrdered(1, " + count + ")", x.setOrdered(1, count), -1005);
        }
        t.due("setOrdered(1, 0)", x.setOrdered(1, 0), 7);
        t.due("setOrdered(2, 0)", x.setOrdered(2, 0), 1);
    }

    private static void plies(Tests t) {
        GarmentMarker x = new GarmentMarker();
        t.due("nothing ordered", x.plies(), 0);
        x.setRatio(0, 0);
        t.due("nothing ordered, ratios 0", x.plies(), 0);
        x.setOrdered(0, 1);
        t.due("ordered, ratio 0", x.plies(), -1008);
        x.setRatio(0, 2);
        t.due("1 by twos", x.plies(), 1);
        x.setOrdered(0, 99);
        t.due("99 by twos", x.plies(), 50);
        x.setOrdered(0, 98);
        t.due("98 by twos", x.plies(), 49);
        x.setOrdered(2, 60);
        t.due("size 2 has ratio 0", x.plies(), -1008);
        x.setRatio(2, 1);
        t.due("the most counts", x.plies(), 60);
        x.setRatio(1, 2);
        t.due("a ratio without an order", x.plies(), 60);
    }

    private static void clothLength(Tests t) {
        GarmentMarker x = new GarmentMarker();
        t.due("nothing at all", x.clothLength(), 0);
        x.setOrdered(0, 7);
        t.due("without pieces", x.clothLength(), 0);
        x.definePiece(0, 5, 4, 4 - 1, 0, 2);
        t.due("7 plies of 4", x.clothLength(), 28);
        x.setOrdered(1, 1);
        t.due("no plies", x.clothLength(), -1008);
        x.setClothWidth(4);
        t.due("neither plies nor layout", x.clothLength(), -1008);
        x.setOrdered(1, 0);
        t.due("no layout", x.clothLength(), -1007);
        x.setOrdered(0, 0);
        t.due("no layout, nothing ordered", x.clothLength(), -1007);
        x.setClothWidth(10);
        t.due("nothing ordered", x.clothLength(), 0);
    }

    private static void surplus(Tests t) {
        GarmentMarker x = new GarmentMarker();
        t.due("nothing ordered", x.surplus(), 0);
        x.setOrdered(0, 7);
        t.due("by ones", x.surplus(), 0);
        x.setRatio(0, 2);
        t.due("by twos", x.surplus(), 1);
        x.setRatio(1, 2);
        t.due("with a size that nobody ordered", x.surplus(), 9);
        x.setOrdered(1, 3);
        t.due("with a size that few ordered", x.surplus(), 6);
        x.setOrdered(2, 1);
        t.due("no plies", x.surplus(), -1008);
        x.setRatio(2, 1);
        t.due("with all sizes", x.surplus(), 9);
        x.definePiece(0, 12, 1, 3, 0, 1);
        t.due("it needs no layout", x.surplus(), 9);
    }

    private static void goodMixes(Tests t) {
        GarmentMarker x = new GarmentMarker();
        t.due("nothing ordered", x.goodMixes(), 26);
        x.setOrdered(1, 1);
        t.due("size 1 ordered", x.goodMixes(), 18);
        x.setOrdered(0, 1);
        t.due("sizes 0 and 1 ordered", x.goodMixes(), 12);
        x.setOrdered(2, 1);
        t.due("all ordered", x.goodMixes(), 8);
        x.setOrdered(1, 0);
        x.setOrdered(2, 0);
        x.definePiece(0, 10, 1, 2, 0, 1);
        t.due("size 2 too wide", x.goodMixes(), 6);
        x.setRatio(0, 0);
        x.setRatio(2, 2);
        t.due("whatever ratios are set", x.goodMixes(), 6);
        t.due("ratio(2) as before", x.ratio(2), 2);
        x.setOrdered(2, 1);
        t.due("size 2 too wide and ordered", x.goodMixes(), 0);
        x.setClothWidth(14);
        t.due("a wider cloth", x.goodMixes(), 12);
    }

    private static void leastCloth(Tests t) {
        GarmentMarker x = new GarmentMarker();
        x.definePiece(0, 6, 4, 0, 0, 1);
        x.setOrdered(0, 10);
        t.due("bestMix() of one size", x.bestMix(), 200);
        t.due("bestMixCloth() of one size", x.bestMixCloth(), 20);
        x.definePiece(0, 4, 4, 0, 0, 1);
        x.setOrdered(0, 3);
        t.due("bestMix() takes no ratio above 2", x.bestMix(), 200);
        t.due("bestMixCloth() takes no ratio above 2", x.bestMixCloth(), 8);
        x.definePiece(0, 6, 4, 0, 0, 1);
        x.setOrdered(0, 10);
        x.setOrdered(1, 5);
        t.due("bestMix() of two sizes", x.bestMix(), 210);
        t.due("bestMixCloth() of two sizes", x.bestMixCloth(), 40);
        x.setOrdered(0, 2);
        x.setOrdered(1, 1);
        x.setOrdered(2, 1);
        t.due("bestMix() of three sizes", x.bestMix(), 211);
        t.due("bestMixCloth() of three sizes", x.bestMixCloth(), 8);
        t.due("ratio(0) as before", x.ratio(0), 1);
        t.due("ratio(2) as before", x.ratio(2), 0);
    }

    private static void ties(Tests t) {
        GarmentMarker x = new GarmentMarker();
        t.due("nothing ordered", x.bestMix(), 1);
        t.due("bestMixCloth()", x.bestMixCloth(), 0);
        x.setOrdered(0, 3);
        t.due("no cloth, the smaller surplus", x.bestMix(), 100);
        x.setOrdered(0, 4);
        t.due("no cloth, no surplus, the smaller number", x.bestMix(), 100);
        x.setOrdered(1, 4);
        t.due("two sizes", x.bestMix(), 110);
        x.setOrdered(1, 2);
        t.due("a surplus of 0 by a greater number", x.bestMix(), 210);
        x.definePiece(0, 12, 4, 0, 0, 1);
        x.setOrdered(0, 5);
        x.setOrdered(1, 0);
        t.due("the least cloth before the number", x.bestMix(), 100);
        t.due("bestMixCloth()", x.bestMixCloth(), 20);
        x.definePiece(0, 6, 4, 0, 0, 1);
        x.setOrdered(0, 1);
        t.due("equal cloth, the smaller surplus", x.bestMix(), 100);
    }

    private static void noGoodMix(Tests t) {
        GarmentMarker x = new GarmentMarker();
        x.definePiece(0, 5, 5, 0, 0, 1);
        x.setClothWidth(4);
        t.due("goodMixes()", x.goodMixes(), 0);
        t.due("bestMix()", x.bestMix(), -1009);
        t.due("bestMixCloth()", x.bestMixCloth(), -1009);
        t.due("applyBestMix()", x.applyBestMix(), -1009);
        t.due("ratio(0)", x.ratio(0), 1);
        t.due("ratio(1)", x.ratio(1), 0);
        t.due("ratio(2)", x.ratio(2), 0);
    }

    /** By shelves in order of index a pair of sizes 0 and 1 is 7 long, and by the others 5. */
    private static void currentPacking(Tests t) {
        GarmentMarker x = new GarmentMarker();
        x.definePiece(0, 6, 2, 0, 3, 1);
        x.setOrdered(0, 4);
        x.setOrdered(1, 4);
        t.due("bestMixCloth() by shelves", x.bestMixCloth(), 14);
        t.due("bestMix() by shelves", x.bestMix(), 220);
        x.setPacking(0, 1);
        t.due("bestMixCloth() along first", x.bestMixCloth(), 14);
        x.setRotation(true);
        t.due("bestMixCloth() with rotation", x.bestMixCloth(), 14);
        x.setClothWidth(24);
        t.due("bestMix() on wide cloth", x.bestMix(), 220);
        t.due("bestMixCloth() on wide cloth", x.bestMixCloth(), 10);
        x.setPacking(0, 0);
        t.due("bestMixCloth() on wide cloth by index", x.bestMixCloth(), 14);
        x.setFolded(true);
        t.due("bestMixCloth() folded", x.bestMixCloth(), 28);
        t.due("bestMix() folded", x.bestMix(), 110);
    }

    private static void apply(Tests t) {
        GarmentMarker x = new GarmentMarker();
        x.definePiece(0, 6, 4, 0, 0, 1);
        x.setOrdered(0, 4);
        x.setOrdered(2, 2);
        t.due("bestMix()", x.bestMix(), 201);
        t.due("bestMixCloth()", x.bestMixCloth(), 16);
        t.due("applyBestMix()", x.applyBestMix(), 8);
        t.due("ratio(0)", x.ratio(0), 2);
        t.due("ratio(1)", x.ratio(1), 0);
        t.due("ratio(2)", x.ratio(2), 1);
        t.due("markerLength()", x.markerLength(), 8);
        t.due("clothLength()", x.clothLength(), 16);
        t.due("surplus()", x.surplus(), 0);
        x.setOrdered(0, 0);
        x.setOrdered(2, 0);
        x.setOrdered(1, 1);
        t.due("applyBestMix() of another order", x.applyBestMix(), 4);
        t.due("ratio(0)", x.ratio(0), 0);
        t.due("ratio(1)", x.ratio(1), 1);
        t.due("ratio(2)", x.ratio(2), 0);
    }
}
