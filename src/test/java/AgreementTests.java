/** Long runs of mixed calls, the same ones each time, whose answers PlainMarker gives too. */
final class AgreementTests {
    private static final int RUNS = 90;
    /** A step makes at most five calls, and an object is made for 512. */
    private static final int CALLS = 512 - 4;
    private static final int KINDS = 39;

    private long seed;

    private AgreementTests(int run) {
        seed = 1_000_003L * (run + 1);
    }

    static void runAll(Tests tests) {
        tests.run("runs with few and large pieces", t -> runs(t, 0));
        tests.run("runs with many and small pieces", t -> runs(t, 1));
        tests.run("runs with arguments of all kinds", t -> runs(t, 2));
        tests.run("layouts of whole markers", AgreementTests::wholeMarkers);
    }

    private int below(int bound) {
        seed = seed * 6364136223846793005L + 1442695040888963407L;
        return (int) ((seed >>> 33) % bound);
    }

    private int between(int least, int most) {
        return least + below(most - least + 1);
    }

    /** In one of 24 cases, or one of two for wild runs, a value that may lie outside. */
    private int argument(int least, int most, boolean wild) {
        if (below(wild ? 2 : 24) != 0) {
            return between(least, most);
        }
        int[] outside = {least - 1, most + 1, least - 2, most + 7, -1, Integer.MIN_VALUE,
            Integer.MAX_VALUE};
        return outside[below(outside.length)];
    }

    private static void runs(Tests t, int flavour) {
        for (int run = 0; run < RUNS; run++) {
            AgreementTests source = new AgreementTests(run + RUNS * flavour);
            GarmentMarker x = new GarmentMarker();
            PlainMarker plain = new PlainMarker();
            long before = t.answers();
            while (t.answers() - before < CALLS) {
                String at = "run " + run + ", call " + (t.answers() - before);
                source.step(t, x, plain, flavour, at);
            }
        }
    }

    private void step(Tests t, GarmentMarker x, PlainMarker plain, int flavour, String at) {
        boolean wild = flavour == 2;
        int kind = below(KINDS + 8);
        if (kind < 7 || kind >= KINDS) {
            definitions(t, x, plain, kind, flavour, at);
        } else if (kind < 14) {
            settings(t, x, plain, kind, wild, at);
        } else if (kind < 20) {
            seams(t, x, plain, kind, wild, at);
        } else if (kind < 30) {
            markers(t, x, plain, kind, wild, at);
        } else {
            mixes(t, x, plain, kind, wild, at);
        }
    }

    private void definitions(Tests t, GarmentMarker x, PlainMarker plain, int kind, int flavour,
            String at) {
        boolean wild = flavour == 2;
        int piece = argument(0, flavour == 0 ? 2 : 5, wild);
        if (kind == 0) {
            t.due(at + " removePiece", x.removePiece(piece), plain.removePiece(piece));
        } else if (kind < 7) {
            int size = argument(0, 2, wild);
            t.due(at + " pieceWidth", x.pieceWidth(piece, size), plain.pieceSide(piece, 0, size));
            t.due(at + " pieceLength", x.pieceLength(piece, size), plain.pieceSide(piece, 1, size));
        } else {
            int most = flavour == 1 ? 5 : 12;
            int a = argument(1, most, wild && below(3) == 0);
            int b = argument(1, most, wild && below(3) == 0);
            int c = argument(0, flavour == 1 ? 1 : 3, wild && below(3) == 0);
            int d = argument(0, flavour == 1 ? 1 : 3, wild && below(3) == 0);
            int e = argument(1, 2, wild && below(3) == 0);
            t.due(at + " definePiece", x.definePiece(piece, a, b, c, d, e),
                    plain.definePiece(piece, a, b, c, d, e));
        }
    }

    private void settings(Tests t, GarmentMarker x, PlainMarker plain, int kind, boolean wild,
            String at) {
        int size = argument(0, 2, wild);
        int slot = argument(0, 1, wild);
        boolean yes = below(2) == 0;
        switch (kind) {
            case 7 -> {
                int count = argument(0, 2, wild);
                t.due(at + " setRatio", x.setRatio(size, count), plain.setRatio(size, count));
            }
            case 8 -> {
                int width = argument(below(3) == 0 ? 4 : 14, 24, wild);
                t.due(at + " setClothWidth", x.setClothWidth(width), plain.setClothWidth(width));
            }
            case 9 -> t.due(at + " setFolded", x.setFolded(yes), plain.setFolded(yes));
            case 10 -> t.due(at + " setRotation", x.setRotation(yes), plain.setRotation(yes));
            case 11 -> {
                int method = argument(0, 1, wild);
                int order = argument(0, 3, wild);
                t.due(at + " setPacking", x.setPacking(method, order),
                        plain.setPacking(method, order));
            }
            case 12 -> {
                int count = below(3) == 0 ? 0 : argument(0, below(2) == 0 ? 9 : 99, wild);
                t.due(at + " setOrdered", x.setOrdered(size, count), plain.setOrdered(size, count));
            }
            default -> {
                if (yes) {
                    t.due(at + " save", x.save(slot), plain.save(slot));
                } else {
                    t.due(at + " restore", x.restore(slot), plain.restore(slot));
                }
            }
        }
        t.due(at + " ratio", x.ratio(size), plain.ratio(size));
    }

    private void seams(Tests t, GarmentMarker x, PlainMarker plain, int kind, boolean wild,
            String at) {
        int seam = argument(0, 3, wild);
        int size = argument(0, 2, wild);
        if (kind < 17) {
            int a = argument(0, 5, wild);
            int b = argument(0, 1, wild && below(2) == 0);
            int c = below(2) == 0 ? a : argument(0, 5, wild);
            int d = argument(0, 1, wild && below(2) == 0);
            int e = argument(-3, 3, wild && below(2) == 0);
            t.due(at + " addSeam", x.addSeam(a, b, c, d, e), plain.addSeam(a, b, c, d, e));
        }
        t.due(at + " seamCount", x.seamCount(), plain.seamCount());
        t.due(at + " seamDifference", x.seamDifference(seam, size),
                plain.seamDifference(seam, size));
        t.due(at + " matchingSeams", x.matchingSeams(), plain.matchingSeams());
        t.due(at + " firstMismatch", x.firstMismatch(), plain.firstMismatch());
    }

    private void markers(Tests t, GarmentMarker x, PlainMarker plain, int kind, boolean wild,
            String at) {
        int part = argument(0, Math.max(0, plain.partCount() - 1), wild);
        switch (kind) {
            case 20 -> t.due(at + " partCount", x.partCount(), plain.partCount());
            case 21 -> t.due(at + " foldPartCount", x.foldPartCount(), plain.foldPartCount());
            case 22 -> {
                t.due(at + " partSize", x.partSize(part), plain.partSize(part));
                t.due(at + " partPiece", x.partPiece(part), plain.partPiece(part));
            }
            case 23 -> {
                t.due(at + " partAlongExtent", x.partAlongExtent(part),
                        plain.partAlongExtent(part));
                t.due(at + " partAcrossExtent", x.partAcrossExtent(part),
                        plain.partAcrossExtent(part));
            }
            case 24, 25, 26 -> {
                t.due(at + " partAlong", x.partAlong(part), plain.partAlong(part));
                t.due(at + " partAcross", x.partAcross(part), plain.partAcross(part));
            }
            case 27 -> t.due(at + " markerLength", x.markerLength(), plain.markerLength());
            case 28 -> t.due(at + " wastedArea", x.wastedArea(), plain.wastedArea());
            default -> {
                int method = argument(0, 1, wild);
                int order = argument(0, 3, wild);
                t.due(at + " markerLengthWith", x.markerLengthWith(method, order),
                        plain.markerLengthWith(method, order));
            }
        }
    }

    private void mixes(Tests t, GarmentMarker x, PlainMarker plain, int kind, boolean wild,
            String at) {
        switch (kind) {
            case 30 -> t.due(at + " plies", x.plies(), plain.plies());
            case 31 -> t.due(at + " clothLength", x.clothLength(), plain.clothLength());
            case 32 -> t.due(at + " surplus", x.surplus(), plain.surplus());
            case 33 -> t.due(at + " goodMixes", x.goodMixes(), plain.goodMixes());
            case 34 -> t.due(at + " bestMix", x.bestMix(), plain.bestMix());
            case 35 -> t.due(at + " bestMixCloth", x.bestMixCloth(), plain.bestMixCloth());
            case 36 -> {
                if (below(4) == 0) {
                    t.due(at + " applyBestMix", x.applyBestMix(), plain.applyBestMix());
                }
            }
            case 37 -> t.due(at + " bestLength", x.bestLength(), plain.bestLength());
            default -> t.due(at + " bestPacking", x.bestPacking(), plain.bestPacking());
        }
    }

    private static void wholeMarkers(Tests t) {
        for (int run = 0; run < 200; run++) {
            AgreementTests source = new AgreementTests(run);
            GarmentMarker x = new GarmentMarker();
            PlainMarker plain = new PlainMarker();
            source.wholeMarker(t, x, plain, "marker " + run);
        }
    }

    private void wholeMarker(Tests t, GarmentMarker x, PlainMarker plain, String at) {
        int pieces = between(1, 6);
        for (int piece = 0; piece < pieces; piece++) {
            int[] a = {between(1, 12), between(1, 12), below(3), below(3), between(1, 2)};
            x.definePiece(piece, a[0], a[1], a[2], a[3], a[4]);
            plain.definePiece(piece, a[0], a[1], a[2], a[3], a[4]);
        }
        for (int size = 0; size < 3; size++) {
            int count = below(3);
            x.setRatio(size, count);
            plain.setRatio(size, count);
        }
        int width = between(14, 24);
        boolean folded = below(3) == 0;
        boolean rotation = below(2) == 0;
        int method = below(2);
        int order = below(4);
        x.setClothWidth(width);
        plain.setClothWidth(width);
        x.setFolded(folded);
        plain.setFolded(folded);
        x.setRotation(rotation);
        plain.setRotation(rotation);
        x.setPacking(method, order);
        plain.setPacking(method, order);
        for (int part = 0; part < plain.partCount(); part++) {
            t.due(at + " partAlong(" + part + ")", x.partAlong(part), plain.partAlong(part));
            t.due(at + " partAcross(" + part + ")", x.partAcross(part), plain.partAcross(part));
        }
    }
}
