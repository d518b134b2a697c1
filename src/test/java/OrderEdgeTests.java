/** The sentences of the document's description about orders and mixes, each with a test. */
final class OrderEdgeTests {
    private OrderEdgeTests() {
    }

    static void runAll(Tests tests) {
        runPlies(tests);
        runMixes(tests);
    }

    private static void runPlies(Tests tests) {
        tests.run("plies: at first nothing is ordered", OrderEdgeTests::nothingAtFirst);
        tests.run("plies: nothing ordered is 0 plies", OrderEdgeTests::nothingOrdered);
        tests.run("plies: the smallest number that is enough", OrderEdgeTests::enough);
        tests.run("plies: the size that needs the most", OrderEdgeTests::mostNeeded);
        tests.run("plies: none for an ordered size of ratio 0", OrderEdgeTests::ratioZero);
        tests.run("plies: none changes nothing", OrderEdgeTests::noPlies);
        tests.run("plies: a size of ratio 0 that nobody ordered", OrderEdgeTests::zeroOfZero);
        tests.run("cloth length: plies times marker length", OrderEdgeTests::clothLength);
        tests.run("cloth length: 0 plies, and 0 parts", OrderEdgeTests::noCloth);
        tests.run("cloth length: no layout, with 0 plies too", OrderEdgeTests::clothNoLayout);
        tests.run("surplus: over all sizes", OrderEdgeTests::surplus);
        tests.run("surplus: none", OrderEdgeTests::noSurplus);
        tests.run("surplus: no plies", OrderEdgeTests::surplusNoPlies);
        tests.run("surplus: it needs no layout", OrderEdgeTests::surplusNoLayout);
    }

    private static void runMixes(Tests tests) {
        tests.run("mixes: 26, not all ratios 0", OrderEdgeTests::allMixes);
        tests.run("mixes: each is once the best, and its number", OrderEdgeTests::eachBest);
        tests.run("mixes: not good without plies", OrderEdgeTests::goodByPlies);
        tests.run("mixes: not good without a layout", OrderEdgeTests::goodByLayout);
        tests.run("mixes: the ratios that are set do not count", OrderEdgeTests::ratiosFree);
        tests.run("mixes: the smallest cloth length first", OrderEdgeTests::byCloth);
        tests.run("mixes: then the smaller surplus", OrderEdgeTests::bySurplus);
        tests.run("mixes: then the smaller number", OrderEdgeTests::byNumber);
        tests.run("mixes: with the cloth that is set", OrderEdgeTests::withCloth);
        tests.run("mixes: folded as it is set", OrderEdgeTests::withFolding);
        tests.run("mixes: with rotation as it is set", OrderEdgeTests::withRotation);
        tests.run("mixes: with the method that is set", OrderEdgeTests::withMethod);
        tests.run("mixes: with the order that is set", OrderEdgeTests::withOrder);
        tests.run("mixes: the best one hangs on method and order", OrderEdgeTests::withPacking);
        tests.run("mixes: no good mix changes nothing", OrderEdgeTests::noGoodMix);
        tests.run("mixes: bestMix and bestMixCloth change nothing", OrderEdgeTests::onlyAsked);
        tests.run("mixes: applyBestMix sets the ratios alone", OrderEdgeTests::applied);
        tests.run("mixes: applyBestMix answers the marker length", OrderEdgeTests::appliedLength);
    }

    private static GarmentMarker ordered(int zero, int one, int two) {
        GarmentMarker x = new GarmentMarker();
        x.setOrdered(0, zero);
        x.setOrdered(1, one);
        x.setOrdered(2, two);
        return x;
    }

    private static void ratios(GarmentMarker x, int zero, int one, int two) {
        x.setRatio(0, zero);
        x.setRatio(1, one);
        x.setRatio(2, two);
    }

    private static void best(Tests t, String what, GarmentMarker x, int mix, int cloth) {
        t.due(what + ", bestMix()", x.bestMix(), mix);
        t.due(what + ", bestMixCloth()", x.bestMixCloth(), cloth);
    }

    private static void nothingAtFirst(Tests t) {
        GarmentMarker x = new GarmentMarker();
        t.due("plies()", x.plies(), 0);
        t.due("surplus()", x.surplus(), 0);
        for (int size = 0; size < 3; size++) {
            t.due("setOrdered(" + size + ", 0)", x.setOrdered(size, 0), 0);
        }
    }

    private static void nothingOrdered(Tests t) {
        GarmentMarker x = new GarmentMarker();
        for (int ratio = 0; ratio <= 2; ratio++) {
            ratios(x, ratio, ratio, ratio);
            t.due("plies() with ratios " + ratio, x.plies(), 0);
            t.due("surplus() with ratios " + ratio, x.surplus(), 0);
        }
    }

    private static void enough(Tests t) {
        int[][] due = {{1, 1, 1}, {1, 2, 1}, {2, 1, 2}, {2, 2, 1}, {3, 2, 2}, {4, 2, 2}, {5, 2, 3},
            {98, 2, 49}, {99, 2, 50}, {98, 1, 98}, {99, 1, 99}};
        for (int size = 0; size < 3; size++) {
            for (int[] a : due) {
                GarmentMarker x = new GarmentMarker();
                x.setOrdered(size, a[0]);
                x.setRatio(size, a[1]);
                t.due(a[0] + " of size " + size + " by " + a[1], x.plies(), a[2]);
            }
        }
    }

    private static void mostNeeded(Tests t) {
        int[][] orders = {{7, 3, 3}, {3, 7, 3}, {3, 3, 7}};
        for (int[] a : orders) {
            GarmentMarker x = ordered(a[0], a[1], a[2]);
            ratios(x, 1, 1, 1);
            t.due("plies()", x.plies(), 7);
            ratios(x, 2, 2, 2);
            t.due("plies() by twos", x.plies(), 4);
        }
        GarmentMarker x = ordered(9, 5, 0);
        ratios(x, 2, 1, 2);
        t.due("9 by twos and 5 by ones", x.plies(), 5);
        x.setOrdered(0, 11);
        t.due("11 by twos and 5 by ones", x.plies(), 6);
        x.setOrdered(1, 7);
        t.due("11 by twos and 7 by ones", x.plies(), 7);
    }

    private static void ratioZero(Tests t) {
        for (int size = 0; size < 3; size++) {
            GarmentMarker x = new GarmentMarker();
            ratios(x, 2, 2, 2);
            x.setRatio(size, 0);
            x.setOrdered(size, 1);
            t.due("plies(), size " + size + " ordered", x.plies(), -1008);
            t.due("clothLength(), size " + size + " ordered", x.clothLength(), -1008);
            t.due("surplus(), size " + size + " ordered", x.surplus(), -1008);
            x.setOrdered((size + 1) % 3, 99);
            t.due("plies(), another ordered too", x.plies(), -1008);
            x.setOrdered((size + 2) % 3, 99);
            t.due("plies(), all ordered", x.plies(), -1008);
            x.setRatio(size, 1);
            t.due("plies(), with a ratio", x.plies(), 50);
        }
    }

    private static void noPlies(Tests t) {
        for (Start start : new Start[] {Start.TOO_WIDE, Start.NO_PLIES}) {
            start.unchanged(t, "plies()", GarmentMarker::plies, -1008);
            start.unchanged(t, "clothLength()", GarmentMarker::clothLength, -1008);
            start.unchanged(t, "surplus()", GarmentMarker::surplus, -1008);
        }
        Start.NARROW.unchanged(t, "clothLength()", GarmentMarker::clothLength, -1007);
        Start.NARROW.unchanged(t, "plies()", GarmentMarker::plies, 50);
    }

    private static void zeroOfZero(Tests t) {
        for (int size = 0; size < 3; size++) {
            GarmentMarker x = new GarmentMarker();
            ratios(x, 1, 1, 1);
            x.setRatio(size, 0);
            x.setOrdered((size + 1) % 3, 4);
            x.setOrdered((size + 2) % 3, 6);
            t.due("plies() without size " + size, x.plies(), 6);
            t.due("surplus() without size " + size, x.surplus(), 2);
            t.due("clothLength() without size " + size, x.clothLength(), 0);
        }
    }

    private static void clothLength(Tests t) {
        GarmentMarker x = ordered(7, 0, 0);
        x.definePiece(0, 12, 5, 0, 2, 1);
        t.due("7 plies of 5", x.clothLength(), 35);
        x.setRatio(0, 2);
        t.due("4 plies of 10", x.clothLength(), 40);
        x.setRatio(2, 1);
        t.due("4 plies of 19", x.clothLength(), 76);
        x.setPacking(1, 2);
        t.due("4 plies of 19 by another packing", x.clothLength(), 76);
        GarmentMarker y = Start.FULL.make();
        y.setClothWidth(4);
        t.due("99 of 72 parts, no layout", y.clothLength(), -1007);
        y.setClothWidth(24);
        t.due("50 plies", y.clothLength(), 50 * y.markerLength());
    }

    private static void noCloth(Tests t) {
        GarmentMarker x = ordered(0, 0, 0);
        x.definePiece(0, 12, 5, 0, 2, 1);
        t.due("0 plies", x.clothLength(), 0);
        x.removePiece(0);
        x.setOrdered(0, 99);
        t.due("0 parts", x.clothLength(), 0);
    }

    private static void clothNoLayout(Tests t) {
        GarmentMarker x = ordered(1, 0, 0);
        x.definePiece(0, 12, 5, 0, 0, 1);
        x.setClothWidth(11);
        t.due("1 ply", x.clothLength(), -1007);
        x.setOrdered(0, 0);
        t.due("0 plies", x.clothLength(), -1007);
    }

    private static void surplus(Tests t) {
        GarmentMarker x = ordered(7, 3, 0);
        ratios(x, 2, 1, 2);
        t.due("4 plies: 8 + 4 + 8 less 10", x.surplus(), 10);
        x.setOrdered(2, 8);
        t.due("4 plies: 20 less 18", x.surplus(), 2);
        x.setOrdered(2, 9);
        t.due("5 plies: 25 less 19", x.surplus(), 6);
        x = ordered(0, 0, 99);
        ratios(x, 2, 2, 1);
        t.due("99 plies: 495 less 99", x.surplus(), 396);
    }

    private static void noSurplus(Tests t) {
        GarmentMarker x = ordered(8, 4, 0);
        ratios(x, 2, 1, 0);
        t.due("as ordered", x.surplus(), 0);
        x.setOrdered(1, 3);
        t.due("one less", x.surplus(), 1);
    }

    private static void surplusNoPlies(Tests t) {
        GarmentMarker x = ordered(8, 4, 1);
        ratios(x, 2, 1, 0);
        t.due("an ordered size of ratio 0", x.surplus(), -1008);
        x.setRatio(2, 1);
        t.due("with a ratio", x.surplus(), 16 - 13);
    }

    private static void surplusNoLayout(Tests t) {
        GarmentMarker x = ordered(3, 0, 0);
        x.definePiece(0, 12, 1, 0, 0, 1);
        x.setClothWidth(4);
        x.setRatio(0, 2);
        t.due("plies()", x.plies(), 2);
        t.due("surplus()", x.surplus(), 1);
    }

    private static void allMixes(Tests t) {
        GarmentMarker x = new GarmentMarker();
        t.due("goodMixes() of a new object", x.goodMixes(), 26);
        t.due("bestMix() of a new object", x.bestMix(), 1);
        x.definePiece(0, 4, 4, 0, 0, 1);
        t.due("goodMixes() with a piece", x.goodMixes(), 26);
        best(t, "nothing ordered, the smallest number but 0", x, 1, 0);
        t.due("applyBestMix()", x.applyBestMix(), 4);
        t.due("ratio(0)", x.ratio(0), 0);
        t.due("ratio(2)", x.ratio(2), 1);
    }

    /** Six parts lie beside each other, so one ply of whatever mix is 12 long, and two are 24. */
    private static void eachBest(Tests t) {
        for (int i = 1; i < 27; i++) {
            int[] mix = {i / 9, i / 3 % 3, i % 3};
            GarmentMarker x = ordered(mix[0], mix[1], mix[2]);
            x.definePiece(4, 2, 12, 0, 0, 1);
            int number = 100 * mix[0] + 10 * mix[1] + mix[2];
            best(t, "as ordered, " + number, x, number, 12);
            t.due("applyBestMix() " + number, x.applyBestMix(), 12);
            for (int size = 0; size < 3; size++) {
                t.due("ratio(" + size + ") of " + number, x.ratio(size), mix[size]);
            }
        }
    }

    private static void goodByPlies(Tests t) {
        t.due("size 0 ordered", ordered(1, 0, 0).goodMixes(), 18);
        t.due("size 1 ordered", ordered(0, 1, 0).goodMixes(), 18);
        t.due("size 2 ordered", ordered(0, 0, 1).goodMixes(), 18);
        t.due("sizes 0 and 1 ordered", ordered(99, 1, 0).goodMixes(), 12);
        t.due("sizes 0 and 2 ordered", ordered(1, 0, 99).goodMixes(), 12);
        t.due("sizes 1 and 2 ordered", ordered(0, 1, 1).goodMixes(), 12);
        t.due("all sizes ordered", ordered(1, 1, 1).goodMixes(), 8);
    }

    /** 10, 11 and 12 wide in the three sizes. */
    private static void goodByLayout(Tests t) {
        GarmentMarker x = new GarmentMarker();
        x.definePiece(0, 10, 1, 1, 0, 1);
        int[] cloth = {12, 11, 10, 9};
        int[] good = {26, 8, 2, 0};
        for (int i = 0; i < 4; i++) {
            x.setClothWidth(cloth[i]);
            t.due("goodMixes() on " + cloth[i], x.goodMixes(), good[i]);
        }
        x.setClothWidth(11);
        x.setOrdered(0, 1);
        t.due("goodMixes() with size 0 ordered", x.goodMixes(), 6);
        x.setOrdered(1, 1);
        t.due("goodMixes() with sizes 0 and 1 ordered", x.goodMixes(), 4);
        best(t, "two sizes that fit", x, 110, 2);
        x.setOrdered(2, 1);
        t.due("goodMixes() with all ordered", x.goodMixes(), 0);
        best(t, "all ordered", x, -1009, -1009);
    }

    private static void ratiosFree(Tests t) {
        GarmentMarker x = ordered(0, 4, 0);
        x.definePiece(0, 12, 1, 1, 0, 1);
        x.setClothWidth(13);
        for (int i = 0; i < 27; i++) {
            ratios(x, i / 9, i / 3 % 3, i % 3);
            t.due("goodMixes() with ratios " + i, x.goodMixes(), 6);
            best(t, "with ratios " + i, x, 10, 4);
        }
    }

    /** The less cloth is taken though it has more surplus and the greater number. */
    private static void byCloth(Tests t) {
        GarmentMarker x = ordered(3, 0, 0);
        x.definePiece(0, 6, 4, 0, 0, 1);
        best(t, "2 plies of two, 1 too many, before 3 of one", x, 200, 8);
        x.setOrdered(0, 1);
        best(t, "1 ply of either", x, 100, 4);
        x.definePiece(0, 7, 4, 0, 0, 1);
        x.setOrdered(0, 3);
        best(t, "3 plies of 4 before 2 of 8", x, 100, 12);
    }

    /** By mixes 100 and 200 the cloth is equal, and so it is by 1 and 2. */
    private static void bySurplus(Tests t) {
        GarmentMarker x = ordered(2, 0, 1);
        x.definePiece(0, 4, 3, 0, 0, 1);
        best(t, "1 ply of 201 has no surplus", x, 201, 3);
        x = ordered(2, 2, 0);
        x.definePiece(0, 3, 3, 0, 0, 1);
        best(t, "1 ply of 220 has no surplus", x, 220, 3);
        x = ordered(0, 2, 1);
        best(t, "no cloth: 21 has no surplus, 11 has 1, 12 has 3", x, 21, 0);
        x = ordered(2, 3, 0);
        best(t, "no cloth: 110 has 1, as 220 and 120 have more", x, 110, 0);
        x = ordered(1, 2, 0);
        best(t, "no cloth: 120 has none", x, 120, 0);
    }

    /** Two plies of 100 and one of 200 are equal in cloth and surplus. */
    private static void byNumber(Tests t) {
        GarmentMarker x = ordered(2, 0, 0);
        x.definePiece(0, 12, 3, 0, 0, 1);
        best(t, "100 twice or 200 once", x, 100, 6);
        x = ordered(0, 2, 0);
        x.definePiece(0, 12, 3, 0, 0, 1);
        best(t, "10 twice or 20 once", x, 10, 6);
        x = ordered(0, 0, 2);
        x.definePiece(0, 12, 3, 0, 0, 1);
        best(t, "1 twice or 2 once", x, 1, 6);
        x = ordered(4, 2, 2);
        best(t, "no cloth: 211 twice, not less even", x, 211, 0);
        x = ordered(2, 2, 2);
        best(t, "no cloth: 111 twice or 222 once", x, 111, 0);
    }

    private static void withCloth(Tests t) {
        GarmentMarker x = ordered(2, 0, 0);
        x.definePiece(0, 5, 3, 0, 0, 1);
        x.setClothWidth(10);
        best(t, "two beside each other", x, 200, 3);
        x.setClothWidth(9);
        best(t, "one", x, 100, 6);
        x.setClothWidth(4);
        best(t, "none", x, -1009, -1009);
    }

    private static void withFolding(Tests t) {
        GarmentMarker x = ordered(2, 0, 0);
        x.definePiece(0, 5, 3, 0, 0, 2);
        x.setClothWidth(20);
        best(t, "open, four beside each other", x, 200, 3);
        x.setFolded(true);
        best(t, "folded, two beside each other", x, 200, 3);
        x.definePiece(0, 5, 3, 0, 0, 1);
        best(t, "folded, each at the fold", x, 100, 6);
        x.setFolded(false);
        best(t, "open, two beside each other", x, 200, 3);
    }

    private static void withRotation(Tests t) {
        GarmentMarker x = ordered(2, 0, 0);
        x.definePiece(0, 7, 5, 0, 0, 1);
        best(t, "each in a shelf", x, 100, 10);
        x.definePiece(0, 5, 7, 0, 0, 1);
        best(t, "two beside each other", x, 200, 7);
        x.setRotation(true);
        best(t, "turned, each in a shelf", x, 100, 10);
    }

    /** One garment is two parts, 8 by 2 and 4 by 6; beside each other they are 6 long. */
    private static void withMethod(Tests t) {
        GarmentMarker x = ordered(1, 0, 0);
        x.definePiece(0, 8, 2, 0, 0, 1);
        x.definePiece(1, 4, 6, 0, 0, 1);
        best(t, "shelves", x, 100, 8);
        x.setPacking(1, 0);
        best(t, "first free", x, 100, 6);
        t.due("applyBestMix()", x.applyBestMix(), 6);
    }

    private static void withOrder(Tests t) {
        GarmentMarker x = ordered(1, 0, 0);
        x.definePiece(0, 8, 2, 0, 0, 1);
        x.definePiece(1, 4, 6, 0, 0, 1);
        x.setPacking(0, 2);
        best(t, "the wider first", x, 100, 8);
        x.setPacking(0, 1);
        best(t, "the longer first", x, 100, 6);
        x.setPacking(0, 3);
        best(t, "the greater first", x, 100, 6);
    }

    /**
     * One of size 0 and two of size 1 are ordered: two plies of 110 with a surplus of 1, or one ply
     * of 120 with none. The wide piece is 10 by 1 and 10 by 2, the narrow one 1 by 3.
     */
    private static void withPacking(Tests t) {
        GarmentMarker x = ordered(1, 2, 0);
        x.definePiece(0, 10, 1, 0, 1, 1);
        x.definePiece(1, 1, 3, 0, 0, 1);
        best(t, "shelves by index: 2 of 4 before 9", x, 110, 8);
        x.setPacking(0, 1);
        best(t, "shelves, the longer first: 8, or 2 of 4 with a surplus", x, 120, 8);
        x.setPacking(1, 0);
        best(t, "first free by index: 6, or 2 of 3 with a surplus", x, 120, 6);
        x.setPacking(1, 1);
        best(t, "first free, the longer first: 2 of 3 before 8", x, 110, 6);
    }

    private static void noGoodMix(Tests t) {
        for (Start start : new Start[] {Start.TOO_WIDE, Start.NARROW}) {
            start.unchanged(t, "goodMixes()", GarmentMarker::goodMixes, 0);
            start.unchanged(t, "bestMix()", GarmentMarker::bestMix, -1009);
            start.unchanged(t, "bestMixCloth()", GarmentMarker::bestMixCloth, -1009);
            start.unchanged(t, "applyBestMix()", GarmentMarker::applyBestMix, -1009);
        }
    }

    private static void onlyAsked(Tests t) {
        for (Start start : Start.values()) {
            GarmentMarker x = start.make();
            int mix = x.bestMix();
            int cloth = x.bestMixCloth();
            int good = x.goodMixes();
            start.unchanged(t, "bestMix()", GarmentMarker::bestMix, mix);
            start.unchanged(t, "bestMixCloth()", GarmentMarker::bestMixCloth, cloth);
            start.unchanged(t, "goodMixes()", GarmentMarker::goodMixes, good);
        }
    }

    /** After it and after setting the ratios back, all is as it was. */
    private static void applied(Tests t) {
        Start.NEW.unchanged(t, "applyBestMix(), ratios set back", x -> {
            t.due("applyBestMix() without pieces", x.applyBestMix(), 0);
            ratios(x, 1, 0, 0);
        });
        Start.MIDDLE.unchanged(t, "applyBestMix(), ratios set back", x -> {
            x.applyBestMix();
            ratios(x, 2, 1, 0);
        });
        Start.FULL.unchanged(t, "applyBestMix(), ratios set back", x -> {
            x.applyBestMix();
            ratios(x, 2, 2, 2);
        });
    }

    private static void appliedLength(Tests t) {
        for (Start start : new Start[] {Start.NEW, Start.MIDDLE, Start.FULL}) {
            GarmentMarker x = start.make();
            int mix = x.bestMix();
            int cloth = x.bestMixCloth();
            int length = x.applyBestMix();
            t.due(start + ", markerLength()", x.markerLength(), length);
            t.due(start + ", clothLength()", x.clothLength(), cloth);
            t.due(start + ", the ratios", 100 * x.ratio(0) + 10 * x.ratio(1) + x.ratio(2), mix);
            t.due(start + ", applyBestMix() again", x.applyBestMix(), length);
            t.due(start + ", bestMix() again", x.bestMix(), mix);
        }
    }
}
