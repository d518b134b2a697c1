import java.util.List;
import java.util.function.Consumer;
import java.util.function.ToIntFunction;

/** Objects to begin a test with: the same calls make the same object as often as it is needed. */
enum Start {
    NEW(Start::nothing),
    /** Three pieces and three seams on folded cloth, two sizes ordered; slot 0 holds the middle. */
    MIDDLE(Start::middle),
    /** Six pieces, six seams, 72 parts; both slots hold something. */
    FULL(Start::full),
    /** A part too wide for the strip and no plies; slot 1 holds a state without garments. */
    TOO_WIDE(Start::tooWide),
    /** Plies but no layout by any mix; six seams that all match; piece 3 is not defined. */
    NARROW(Start::narrow),
    /** A layout but no plies; six seams, and piece 3 is not defined. */
    NO_PLIES(Start::noPlies);

    private final Consumer<GarmentMarker> calls;
    private List<List<String>> views;

    Start(Consumer<GarmentMarker> calls) {
        this.calls = calls;
    }

    GarmentMarker make() {
        GarmentMarker x = new GarmentMarker();
        calls.accept(x);
        return x;
    }

    /** The call is due to be answered so, and to leave the object and its slots as they were. */
    void unchanged(Tests t, String call, ToIntFunction<GarmentMarker> made, int due) {
        unchanged(t, call, x -> t.due(this + ": " + call, made.applyAsInt(x), due));
    }

    void unchanged(Tests t, String call, Consumer<GarmentMarker> made) {
        if (views == null) {
            views = viewsAfter(x -> { });
        }
        List<List<String>> after = viewsAfter(made);
        for (int i = 0; i < after.size(); i++) {
            String where = i == 0 ? "now" : "in slot " + (i - 1);
            same(t, this + " after " + call + ", " + where, after.get(i), views.get(i));
        }
    }

    static void same(Tests t, String what, List<String> answered, List<String> due) {
        for (int i = 0; i < due.size(); i++) {
            if (!answered.get(i).equals(due.get(i))) {
                t.fail(what + ": " + answered.get(i) + ", due is " + due.get(i));
            }
        }
    }

    /** What is seen now, and after restoring slot 0 and slot 1, each on an object of its own. */
    private List<List<String>> viewsAfter(Consumer<GarmentMarker> made) {
        return List.of(viewAfter(made, -1), viewAfter(made, 0), viewAfter(made, 1));
    }

    private List<String> viewAfter(Consumer<GarmentMarker> made, int slot) {
        GarmentMarker x = make();
        made.accept(x);
        int restored = slot < 0 ? 1 : x.restore(slot);
        List<String> view = View.of(x);
        view.add("restored = " + restored);
        return view;
    }

    private static void nothing(GarmentMarker x) {
    }

    private static void middle(GarmentMarker x) {
        x.definePiece(0, 6, 8, 1, 2, 2);
        x.definePiece(2, 3, 5, 2, 0, 1);
        x.addSeam(0, 0, 2, 1, 1);
        x.addSeam(2, 0, 0, 1, 3);
        x.setOrdered(1, 5);
        x.setRatio(1, 1);
        x.save(0);
        x.definePiece(5, 4, 4, 0, 1, 2);
        x.addSeam(5, 1, 5, 0, -2);
        x.setRatio(0, 2);
        x.setOrdered(0, 9);
        x.setClothWidth(23);
        x.setFolded(true);
        x.setRotation(true);
        x.setPacking(1, 2);
    }

    private static void full(GarmentMarker x) {
        x.save(1);
        for (int piece = 0; piece < 6; piece++) {
            x.definePiece(piece, 2 + piece, 7 - piece, piece % 3, piece / 2, 2);
            x.addSeam(piece, 0, piece / 2, 1, piece - 3);
        }
        x.save(0);
        for (int size = 0; size < 3; size++) {
            x.setRatio(size, 2);
            x.setOrdered(size, 99 - size);
        }
        x.setClothWidth(24);
        x.setPacking(0, 3);
    }

    private static void tooWide(GarmentMarker x) {
        x.definePiece(1, 4, 3, 1, 1, 1);
        x.setRatio(0, 0);
        x.save(1);
        x.definePiece(4, 5, 6, 2, 0, 2);
        x.addSeam(1, 0, 4, 0, 0);
        x.setRatio(1, 2);
        x.setOrdered(2, 1);
        x.setOrdered(1, 40);
        x.setClothWidth(4);
        x.setPacking(1, 1);
    }

    private static void narrow(GarmentMarker x) {
        full(x);
        int[] pieces = {0, 1, 2, 4, 5};
        x.removePiece(3);
        for (int piece : pieces) {
            x.removePiece(piece);
            x.definePiece(piece, 5 + piece, 3, piece / 2, 1, 1 + piece % 2);
        }
        x.save(0);
        for (int piece : pieces) {
            x.addSeam(piece, piece % 2, piece, piece % 2, 0);
        }
        x.addSeam(0, 1, 0, 1, 0);
        x.setRotation(true);
        x.setPacking(1, 3);
        x.setClothWidth(5);
        x.setFolded(true);
    }

    private static void noPlies(GarmentMarker x) {
        full(x);
        x.removePiece(3);
        for (int seam = x.seamCount(); seam < 6; seam++) {
            x.addSeam(0, 0, 5, 1, seam - 2);
        }
        x.setRatio(1, 0);
        x.setRatio(2, 1);
        x.setPacking(1, 1);
    }
}
