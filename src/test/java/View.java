import java.util.ArrayList;
import java.util.List;

/** All that can be asked of an object, as lines in a fixed order. Asking leaves it as it was. */
final class View {
    /** So that a view and the calls before it stay within the 512 calls of an object. */
    private static final int FIRST_PARTS = 14;

    private final GarmentMarker x;
    private final List<String> lines = new ArrayList<>();

    private View(GarmentMarker x) {
        this.x = x;
    }

    static List<String> of(GarmentMarker x) {
        View view = new View(x);
        view.settings();
        view.pieces();
        view.seams();
        view.parts();
        view.lengths();
        view.orders();
        return view.lines;
    }

    private void line(String call, Object answer) {
        lines.add(call + " = " + answer);
    }

    /** What can be asked only by setting it is set back at once. */
    private void settings() {
        for (int size = 0; size < 3; size++) {
            line("ratio(" + size + ")", x.ratio(size));
            int ordered = x.setOrdered(size, 0);
            x.setOrdered(size, ordered);
            line("ordered of size " + size, ordered);
        }
        int width = x.setClothWidth(12);
        x.setClothWidth(width);
        line("cloth width", width);
        boolean folded = x.setFolded(false);
        x.setFolded(folded);
        line("folded", folded);
        boolean rotation = x.setRotation(false);
        x.setRotation(rotation);
        line("rotation", rotation);
        int packing = x.setPacking(0, 0);
        x.setPacking(packing / 10, packing % 10);
        line("packing", packing);
    }

    private void pieces() {
        for (int piece = 0; piece < 6; piece++) {
            for (int size = 0; size < 3; size++) {
                line("pieceWidth(" + piece + ", " + size + ")", x.pieceWidth(piece, size));
                line("pieceLength(" + piece + ", " + size + ")", x.pieceLength(piece, size));
            }
        }
    }

    private void seams() {
        line("seamCount()", x.seamCount());
        for (int seam = 0; seam < 6; seam++) {
            for (int size = 0; size < 3; size++) {
                line("seamDifference(" + seam + ", " + size + ")", x.seamDifference(seam, size));
            }
        }
        line("matchingSeams()", x.matchingSeams());
        line("firstMismatch()", x.firstMismatch());
    }

    private void parts() {
        line("partCount()", x.partCount());
        line("foldPartCount()", x.foldPartCount());
        for (int part = 0; part < FIRST_PARTS; part++) {
            part(part);
        }
        part(x.partCount() - 1);
    }

    private void part(int part) {
        line("partSize(" + part + ")", x.partSize(part));
        line("partPiece(" + part + ")", x.partPiece(part));
        line("partAlongExtent(" + part + ")", x.partAlongExtent(part));
        line("partAcrossExtent(" + part + ")", x.partAcrossExtent(part));
        line("partAlong(" + part + ")", x.partAlong(part));
        line("partAcross(" + part + ")", x.partAcross(part));
    }

    private void lengths() {
        line("markerLength()", x.markerLength());
        line("wastedArea()", x.wastedArea());
        for (int i = 0; i < 8; i++) {
            line("markerLengthWith(" + i / 4 + ", " + i % 4 + ")",
                    x.markerLengthWith(i / 4, i % 4));
        }
        line("bestLength()", x.bestLength());
        line("bestPacking()", x.bestPacking());
    }

    private void orders() {
        line("plies()", x.plies());
        line("clothLength()", x.clothLength());
        line("surplus()", x.surplus());
        line("goodMixes()", x.goodMixes());
        line("bestMix()", x.bestMix());
        line("bestMixCloth()", x.bestMixCloth());
    }
}
