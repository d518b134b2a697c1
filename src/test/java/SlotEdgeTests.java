import java.util.List;
import java.util.function.Consumer;

/** The sentences of promises 38 and 39, each with a test, and questions that change nothing. */
final class SlotEdgeTests {
    private SlotEdgeTests() {
    }

    static void runAll(Tests tests) {
        runKept(tests);
        tests.run("slots: at first nothing is saved", SlotEdgeTests::nothingSaved);
        tests.run("slots: one saved, the other not", SlotEdgeTests::otherSlot);
        tests.run("slots: saving changes nothing but the slot", SlotEdgeTests::saveChangesNothing);
        tests.run("slots: saving overwrites that slot alone", SlotEdgeTests::overwrites);
        tests.run("slots: restoring leaves both slots", SlotEdgeTests::restoreKeeps);
        tests.run("slots: a slot does not hold the slots", SlotEdgeTests::slotsApart);
        tests.run("slots: a new object, saved and restored", SlotEdgeTests::newObject);
        tests.run("slots: a full object, saved and restored", SlotEdgeTests::fullObject);
        tests.run("no question changes anything", SlotEdgeTests::questions);
        tests.run("promise 1: two objects have nothing in common", SlotEdgeTests::twoObjects);
        tests.run("settings: what is set again stays", SlotEdgeTests::setAgain);
        tests.run("an object's 512 calls, each a change", SlotEdgeTests::changesToTheLast);
        tests.run("an object's 512 calls, each a question", SlotEdgeTests::questionsToTheLast);
    }

    /** Each part of the state by itself: changed after the save, and back after the restore. */
    private static void runKept(Tests tests) {
        kept(tests, "a piece defined", x -> x.definePiece(1, 2, 2, 0, 0, 1));
        kept(tests, "a piece's width", x -> x.definePiece(0, 5, 8, 1, 2, 2));
        kept(tests, "a piece's length", x -> x.definePiece(0, 6, 9, 1, 2, 2));
        kept(tests, "a piece's widthGrowth", x -> x.definePiece(0, 6, 8, 0, 2, 2));
        kept(tests, "a piece's lengthGrowth", x -> x.definePiece(0, 6, 8, 1, 3, 2));
        kept(tests, "a piece's copies", x -> x.definePiece(0, 6, 8, 1, 2, 1));
        kept(tests, "the last piece", x -> x.definePiece(5, 1, 1, 0, 0, 1));
        kept(tests, "a piece removed", x -> x.removePiece(2));
        kept(tests, "a seam added", x -> x.addSeam(0, 0, 0, 1, 0));
        kept(tests, "a seam's first piece", x -> seamAgain(x, 2, 1, 5, 0, -2));
        kept(tests, "a seam's first side", x -> seamAgain(x, 5, 0, 5, 0, -2));
        kept(tests, "a seam's second piece", x -> seamAgain(x, 5, 1, 2, 0, -2));
        kept(tests, "a seam's second side", x -> seamAgain(x, 5, 1, 5, 1, -2));
        kept(tests, "a seam's ease", x -> seamAgain(x, 5, 1, 5, 0, 3));
        kept(tests, "the ratio of size 0", x -> x.setRatio(0, 0));
        kept(tests, "the ratio of size 1", x -> x.setRatio(1, 2));
        kept(tests, "the ratio of size 2", x -> x.setRatio(2, 1));
        kept(tests, "the order of size 0", x -> x.setOrdered(0, 8));
        kept(tests, "the order of size 1", x -> x.setOrdered(1, 6));
        kept(tests, "the order of size 2", x -> x.setOrdered(2, 1));
        kept(tests, "the cloth width", x -> x.setClothWidth(22));
        kept(tests, "the folding", x -> x.setFolded(false));
        kept(tests, "the rotation", x -> x.setRotation(false));
        kept(tests, "the packing method", x -> x.setPacking(0, 2));
        kept(tests, "the packing order", x -> x.setPacking(1, 3));
        kept(tests, "the ratios that applyBestMix sets", SlotEdgeTests::applyAnotherMix);
    }

    /** The seam of piece 5 is the only one with it, and the last; it is made anew. */
    private static void seamAgain(GarmentMarker x, int a, int b, int c, int d, int ease) {
        x.removePiece(5);
        x.definePiece(5, 4, 4, 0, 1, 2);
        x.addSeam(a, b, c, d, ease);
    }

    /** The best mix of MIDDLE is the one it has, so another order is applied and taken back. */
    private static void applyAnotherMix(GarmentMarker x) {
        x.setOrdered(0, 1);
        x.applyBestMix();
        x.setOrdered(0, 9);
    }

    private static void kept(Tests tests, String what, Consumer<GarmentMarker> change) {
        tests.run("a slot keeps " + what, t -> {
            List<String> due = View.of(Start.MIDDLE.make());
            for (int slot = 0; slot < 2; slot++) {
                GarmentMarker changed = saved(slot);
                change.accept(changed);
                t.due("something is changed", View.of(changed).equals(due), false);
                GarmentMarker x = saved(slot);
                change.accept(x);
                t.due("restore(" + slot + ")", x.restore(slot), 1);
                Start.same(t, "restored from slot " + slot, View.of(x), due);
            }
        });
    }

    private static GarmentMarker saved(int slot) {
        GarmentMarker x = Start.MIDDLE.make();
        x.save(slot);
        return x;
    }

    private static void nothingSaved(Tests t) {
        Start.NEW.unchanged(t, "restore(0)", x -> x.restore(0), -1011);
        Start.NEW.unchanged(t, "restore(1)", x -> x.restore(1), -1011);
        GarmentMarker x = new GarmentMarker();
        x.definePiece(0, 3, 4, 0, 0, 1);
        t.due("restore(0) after a change", x.restore(0), -1011);
        t.due("restore(0) once more", x.restore(0), -1011);
        t.due("pieceWidth(0, 0)", x.pieceWidth(0, 0), 3);
    }

    private static void otherSlot(Tests t) {
        for (int slot = 0; slot < 2; slot++) {
            GarmentMarker x = new GarmentMarker();
            t.due("save(" + slot + ")", x.save(slot), 1);
            t.due("restore(" + (1 - slot) + ")", x.restore(1 - slot), -1011);
            t.due("restore(" + slot + ")", x.restore(slot), 1);
            t.due("restore(" + (1 - slot) + ") after it", x.restore(1 - slot), -1011);
        }
    }

    private static void saveChangesNothing(Tests t) {
        for (Start start : Start.values()) {
            List<String> due = View.of(start.make());
            for (int slot = 0; slot < 2; slot++) {
                GarmentMarker x = start.make();
                t.due(start + ", save(" + slot + ")", x.save(slot), 1);
                Start.same(t, start + " saved in slot " + slot, View.of(x), due);
            }
        }
    }

    private static void overwrites(Tests t) {
        for (int slot = 0; slot < 2; slot++) {
            GarmentMarker x = new GarmentMarker();
            x.setClothWidth(10);
            x.save(0);
            x.save(1);
            x.setClothWidth(11);
            t.due("save(" + slot + ") again", x.save(slot), 1);
            x.setClothWidth(12);
            t.due("restore(0)", x.restore(0), 1);
            t.due("the width of slot 0", x.setClothWidth(12), slot == 0 ? 11 : 10);
            t.due("restore(1)", x.restore(1), 1);
            t.due("the width of slot 1", x.setClothWidth(12), slot == 1 ? 11 : 10);
        }
    }

    /** FULL holds other things in both slots than it is itself. */
    private static void restoreKeeps(Tests t) {
        GarmentMarker x = Start.FULL.make();
        List<String> first = restoredView(0);
        List<String> second = restoredView(1);
        t.due("the slots differ", first.equals(second), false);
        for (int again = 0; again < 2; again++) {
            for (int slot = 0; slot < 2; slot++) {
                t.due("restore(" + slot + ")", x.restore(slot), 1);
                t.due("cloth width of slot " + slot, x.setClothWidth(20), 12);
                t.due("pieceWidth(5, 0) of slot " + slot, x.pieceWidth(5, 0),
                        slot == 0 ? 7 : -1001);
                x.removePiece(5);
                x.definePiece(0, 9, 9, 0, 0, 2);
                x.setRatio(0, 2);
                x.setOrdered(2, 9);
            }
        }
        x.restore(0);
        Start.same(t, "slot 0", View.of(x), first);
    }

    private static List<String> restoredView(int slot) {
        GarmentMarker x = Start.FULL.make();
        x.restore(slot);
        return View.of(x);
    }

    /** Slot 0 is saved before slot 1; what slot 1 holds stays when slot 0 is restored. */
    private static void slotsApart(Tests t) {
        GarmentMarker x = new GarmentMarker();
        x.save(0);
        x.setClothWidth(21);
        x.save(1);
        t.due("restore(0)", x.restore(0), 1);
        t.due("the width of slot 0", x.setClothWidth(5), 12);
        t.due("restore(1)", x.restore(1), 1);
        t.due("the width of slot 1", x.setClothWidth(5), 21);
        t.due("save(0)", x.save(0), 1);
        t.due("restore(1)", x.restore(1), 1);
        t.due("the width of slot 1", x.setClothWidth(6), 21);
        t.due("restore(0)", x.restore(0), 1);
        t.due("the width of slot 0", x.setClothWidth(6), 5);
    }

    private static void newObject(Tests t) {
        GarmentMarker x = new GarmentMarker();
        x.save(1);
        x.definePiece(0, 3, 3, 0, 0, 2);
        x.addSeam(0, 0, 0, 0, 0);
        x.setRatio(0, 2);
        x.setRatio(2, 2);
        x.setOrdered(1, 4);
        x.setClothWidth(7);
        x.setFolded(true);
        x.setRotation(true);
        x.setPacking(1, 3);
        t.due("restore(1)", x.restore(1), 1);
        Start.same(t, "restored", View.of(x), View.of(new GarmentMarker()));
    }

    private static void fullObject(Tests t) {
        GarmentMarker x = Start.FULL.make();
        List<String> due = View.of(Start.FULL.make());
        x.save(1);
        for (int piece = 0; piece < 6; piece++) {
            x.removePiece(piece);
        }
        t.due("seamCount() after all are removed", x.seamCount(), 0);
        t.due("restore(1)", x.restore(1), 1);
        Start.same(t, "restored", View.of(x), due);
    }

    private static void questions(Tests t) {
        for (Start start : Start.values()) {
            start.unchanged(t, "all questions", x -> {
                for (int i = 0; i < 3; i++) {
                    x.pieceWidth(i, i);
                    x.pieceLength(5 - i, i);
                    x.seamDifference(i, 2 - i);
                    x.ratio(i);
                    x.partSize(i);
                    x.partPiece(i);
                    x.partAlong(i);
                    x.partAcross(i);
                    x.partAlongExtent(i);
                    x.partAcrossExtent(i);
                    x.markerLengthWith(i % 2, i);
                }
                questionsOfNothing(x);
            });
        }
    }

    private static void questionsOfNothing(GarmentMarker x) {
        x.seamCount();
        x.matchingSeams();
        x.firstMismatch();
        x.partCount();
        x.foldPartCount();
        x.markerLength();
        x.wastedArea();
        x.bestLength();
        x.bestPacking();
        x.plies();
        x.clothLength();
        x.surplus();
        x.goodMixes();
        x.bestMix();
        x.bestMixCloth();
    }

    private static void twoObjects(Tests t) {
        GarmentMarker x = new GarmentMarker();
        GarmentMarker full = Start.FULL.make();
        full.applyBestMix();
        full.save(0);
        Start.same(t, "an object beside a full one", View.of(x), View.of(new GarmentMarker()));
        t.due("restore(0)", x.restore(0), -1011);
    }

    private static void setAgain(Tests t) {
        Start.MIDDLE.unchanged(t, "what is set already", x -> {
            t.due("setRatio(0, 2)", x.setRatio(0, 2), 2);
            t.due("setRatio(2, 0)", x.setRatio(2, 0), 0);
            t.due("setOrdered(1, 5)", x.setOrdered(1, 5), 5);
            t.due("setClothWidth(23)", x.setClothWidth(23), 23);
            t.due("setFolded(true)", x.setFolded(true), true);
            t.due("setRotation(true)", x.setRotation(true), true);
            t.due("setPacking(1, 2)", x.setPacking(1, 2), 12);
            t.due("definePiece(0)", x.definePiece(0, 6, 8, 1, 2, 2), 3);
        });
    }

    /** Pieces and seams come and go, so that nothing may fill up on the way. */
    private static void changesToTheLast(Tests t) {
        GarmentMarker x = new GarmentMarker();
        for (int call = 0; call < 512; call += 4) {
            int piece = call / 4 % 6;
            t.due("definePiece", x.definePiece(piece, 3, 4, 0, 0, 2), 1);
            t.due("addSeam", x.addSeam(piece, 0, piece, 1, 0), 0);
            t.due("save", x.save(piece % 2), 1);
            t.due("removePiece", x.removePiece(piece), 0);
        }
    }

    private static void questionsToTheLast(Tests t) {
        GarmentMarker x = Start.FULL.make();
        x.setPacking(1, 2);
        int mix = x.bestMix();
        int length = x.markerLength();
        for (int calls = 50; calls < 512; calls += 2) {
            t.due("bestMix()", x.bestMix(), mix);
            t.due("markerLength()", x.markerLength(), length);
        }
    }
}
