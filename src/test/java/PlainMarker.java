import java.util.ArrayList;
import java.util.Comparator;
import java.util.List;

/**
 * The document's description once more, as literally as it can be written: every place of the strip
 * is tried, every mix is planned anew, and nothing is used again. The class is compared with it.
 */
final class PlainMarker {
    private record Piece(int width, int length, int widthGrowth, int lengthGrowth, int copies) {
        int side(int side, int size) {
            return side == 0 ? width + size * widthGrowth : length + size * lengthGrowth;
        }
    }

    private record Seam(int firstPiece, int firstSide, int secondPiece, int secondSide, int ease) {
    }

    private record Part(int index, int size, int piece, boolean fold, int across, int along) {
    }

    private record Place(Part part, int along, int across) {
        boolean overlaps(Place other) {
            return along < other.along + other.part.along && other.along < along + part.along
                    && across < other.across + other.part.across
                    && other.across < across + part.across;
        }
    }

    private static final class Shelf {
        int start;
        int depth;
        int used;
    }

    private static final class State {
        Piece[] pieces = new Piece[6];
        List<Seam> seams = new ArrayList<>();
        int[] ratios = {1, 0, 0};
        int[] ordered = {0, 0, 0};
        int clothWidth = 12;
        boolean folded;
        boolean rotation;
        int method;
        int order;

        State copy() {
            State copy = new State();
            copy.pieces = pieces.clone();
            copy.seams = new ArrayList<>(seams);
            copy.ratios = ratios.clone();
            copy.ordered = ordered.clone();
            copy.clothWidth = clothWidth;
            copy.folded = folded;
            copy.rotation = rotation;
            copy.method = method;
            copy.order = order;
            return copy;
        }

        int strip() {
            return folded ? clothWidth / 2 : clothWidth;
        }
    }

    private State s = new State();
    private final State[] slots = new State[2];

    int definePiece(int piece, int width, int length, int widthGrowth, int lengthGrowth,
            int copies) {
        if (piece < 0 || piece > 5) {
            return -1001;
        }
        if (width < 1 || width > 12 || length < 1 || length > 12 || widthGrowth < 0
                || widthGrowth > 3 || lengthGrowth < 0 || lengthGrowth > 3 || copies < 1
                || copies > 2) {
            return -1005;
        }
        s.pieces[piece] = new Piece(width, length, widthGrowth, lengthGrowth, copies);
        int count = 0;
        for (Piece each : s.pieces) {
            count += each == null ? 0 : 1;
        }
        return count;
    }

    private boolean undefined(int piece) {
        return piece < 0 || piece > 5 || s.pieces[piece] == null;
    }

    private static boolean noSize(int size) {
        return size < 0 || size > 2;
    }

    int removePiece(int piece) {
        if (undefined(piece)) {
            return -1001;
        }
        s.pieces[piece] = null;
        s.seams.removeIf(seam -> seam.firstPiece == piece || seam.secondPiece == piece);
        return s.seams.size();
    }

    int pieceSide(int piece, int side, int size) {
        return undefined(piece) ? -1001 : noSize(size) ? -1002 : s.pieces[piece].side(side, size);
    }

    int addSeam(int firstPiece, int firstSide, int secondPiece, int secondSide, int ease) {
        if (undefined(firstPiece) || undefined(secondPiece)) {
            return -1001;
        }
        if (firstSide < 0 || firstSide > 1 || secondSide < 0 || secondSide > 1 || ease < -3
                || ease > 3) {
            return -1005;
        }
        if (s.seams.size() == 6) {
            return -1006;
        }
        s.seams.add(new Seam(firstPiece, firstSide, secondPiece, secondSide, ease));
        return s.seams.size() - 1;
    }

    int seamCount() {
        return s.seams.size();
    }

    private int difference(Seam seam, int size) {
        return s.pieces[seam.firstPiece].side(seam.firstSide, size)
                - s.pieces[seam.secondPiece].side(seam.secondSide, size) - seam.ease;
    }

    int seamDifference(int seam, int size) {
        return seam < 0 || seam >= s.seams.size() ? -1003
                : noSize(size) ? -1002 : difference(s.seams.get(seam), size);
    }

    private boolean matches(Seam seam) {
        return difference(seam, 0) == 0 && difference(seam, 1) == 0 && difference(seam, 2) == 0;
    }

    int matchingSeams() {
        return (int) s.seams.stream().filter(this::matches).count();
    }

    int firstMismatch() {
        for (int i = 0; i < s.seams.size(); i++) {
            if (!matches(s.seams.get(i))) {
                return i;
            }
        }
        return -1010;
    }

    int setRatio(int size, int count) {
        if (noSize(size)) {
            return -1002;
        }
        if (count < 0 || count > 2) {
            return -1005;
        }
        int previous = s.ratios[size];
        s.ratios[size] = count;
        return previous;
    }

    int ratio(int size) {
        return noSize(size) ? -1002 : s.ratios[size];
    }

    int setClothWidth(int width) {
        if (width < 4 || width > 24) {
            return -1005;
        }
        int previous = s.clothWidth;
        s.clothWidth = width;
        return previous;
    }

    boolean setFolded(boolean folded) {
        boolean previous = s.folded;
        s.folded = folded;
        return previous;
    }

    boolean setRotation(boolean allowed) {
        boolean previous = s.rotation;
        s.rotation = allowed;
        return previous;
    }

    private static boolean noPacking(int method, int order) {
        return method < 0 || method > 1 || order < 0 || order > 3;
    }

    int setPacking(int method, int order) {
        if (noPacking(method, order)) {
            return -1005;
        }
        int previous = 10 * s.method + s.order;
        s.method = method;
        s.order = order;
        return previous;
    }

    private List<Part> parts(int[] ratios) {
        List<Part> parts = new ArrayList<>();
        for (int size = 0; size < 3; size++) {
            for (int garment = 0; garment < ratios[size]; garment++) {
                for (int piece = 0; piece < 6; piece++) {
                    if (s.pieces[piece] != null) {
                        int copies = s.folded ? 1 : s.pieces[piece].copies;
                        for (int copy = 0; copy < copies; copy++) {
                            parts.add(part(parts.size(), size, piece));
                        }
                    }
                }
            }
        }
        return parts;
    }

    private Part part(int index, int size, int piece) {
        int width = s.pieces[piece].side(0, size);
        int length = s.pieces[piece].side(1, size);
        if (s.folded && s.pieces[piece].copies == 1) {
            return new Part(index, size, piece, true, width / 2 + width % 2, length);
        }
        Part normal = new Part(index, size, piece, false, width, length);
        Part turned = new Part(index, size, piece, false, length, width);
        if (!s.rotation) {
            return normal;
        }
        List<Part> ways = new ArrayList<>(List.of(normal, turned));
        ways.removeIf(way -> way.across > s.strip());
        return ways.stream().min(Comparator.comparingInt(Part::along)).orElse(normal);
    }

    int partCount() {
        return parts(s.ratios).size();
    }

    int foldPartCount() {
        return (int) parts(s.ratios).stream().filter(Part::fold).count();
    }

    private int ofPart(int part, java.util.function.ToIntFunction<Part> what) {
        List<Part> parts = parts(s.ratios);
        return part < 0 || part >= parts.size() ? -1004 : what.applyAsInt(parts.get(part));
    }

    int partSize(int part) {
        return ofPart(part, Part::size);
    }

    int partPiece(int part) {
        return ofPart(part, Part::piece);
    }

    int partAlongExtent(int part) {
        return ofPart(part, Part::along);
    }

    int partAcrossExtent(int part) {
        return ofPart(part, Part::across);
    }

    /** The places of the parts, or null if there is no layout. */
    private List<Place> layout(int[] ratios, int method, int order) {
        List<Part> parts = parts(ratios);
        if (parts.stream().anyMatch(part -> part.across > s.strip())) {
            return null;
        }
        Comparator<Part> byIndex = Comparator.comparingInt(Part::index);
        if (order == 1) {
            parts.sort(Comparator.comparingInt((Part part) -> -part.along).thenComparing(byIndex));
        } else if (order == 2) {
            parts.sort(Comparator.comparingInt((Part part) -> -part.across).thenComparing(byIndex));
        } else if (order == 3) {
            parts.sort(Comparator.comparingInt((Part part) -> -part.across * part.along)
                    .thenComparing(byIndex));
        }
        return method == 0 ? onShelves(parts) : firstFree(parts);
    }

    private List<Place> onShelves(List<Part> parts) {
        List<Place> places = new ArrayList<>();
        List<Shelf> shelves = new ArrayList<>();
        for (Part part : parts) {
            Shelf found = null;
            for (Shelf shelf : shelves) {
                if (found == null && !part.fold && part.along <= shelf.depth
                        && shelf.used + part.across <= s.strip()) {
                    found = shelf;
                }
            }
            if (found == null) {
                found = new Shelf();
                found.depth = part.along;
                if (!shelves.isEmpty()) {
                    Shelf before = shelves.get(shelves.size() - 1);
                    found.start = before.start + before.depth;
                }
                shelves.add(found);
            }
            places.add(new Place(part, found.start, found.used));
            found.used += part.across;
        }
        return places;
    }

    private List<Place> firstFree(List<Part> parts) {
        List<Place> places = new ArrayList<>();
        for (Part part : parts) {
            places.add(freePlace(part, places));
        }
        return places;
    }

    private Place freePlace(Part part, List<Place> places) {
        for (int along = 0; true; along++) {
            for (int across = 0; across + part.across <= s.strip(); across++) {
                Place place = new Place(part, along, across);
                if ((across == 0 || !part.fold) && places.stream().noneMatch(place::overlaps)) {
                    return place;
                }
            }
        }
    }

    private Place place(int part) {
        for (Place place : layout(s.ratios, s.method, s.order)) {
            if (place.part.index == part) {
                return place;
            }
        }
        throw new IllegalStateException("part " + part + " is not placed");
    }

    private int placeError(int part) {
        return part < 0 || part >= partCount() ? -1004
                : layout(s.ratios, s.method, s.order) == null ? -1007 : 0;
    }

    int partAlong(int part) {
        return placeError(part) != 0 ? placeError(part) : place(part).along;
    }

    int partAcross(int part) {
        return placeError(part) != 0 ? placeError(part) : place(part).across;
    }

    private int length(int[] ratios, int method, int order) {
        List<Place> places = layout(ratios, method, order);
        if (places == null) {
            return -1007;
        }
        return places.stream().mapToInt(place -> place.along + place.part.along).max().orElse(0);
    }

    int markerLength() {
        return length(s.ratios, s.method, s.order);
    }

    int wastedArea() {
        int length = markerLength();
        int area = parts(s.ratios).stream().mapToInt(part -> part.along * part.across).sum();
        return length < 0 ? -1007 : length * s.strip() - area;
    }

    int markerLengthWith(int method, int order) {
        return noPacking(method, order) ? -1005 : length(s.ratios, method, order);
    }

    int bestLength() {
        int best = length(s.ratios, 0, 0);
        for (int i = 1; i < 8; i++) {
            best = Math.min(best, length(s.ratios, i / 4, i % 4));
        }
        return best;
    }

    int bestPacking() {
        int best = bestLength();
        for (int i = 0; i < 8; i++) {
            if (best >= 0 && length(s.ratios, i / 4, i % 4) == best) {
                return 10 * (i / 4) + i % 4;
            }
        }
        return -1007;
    }

    int setOrdered(int size, int count) {
        if (noSize(size)) {
            return -1002;
        }
        if (count < 0 || count > 99) {
            return -1005;
        }
        int previous = s.ordered[size];
        s.ordered[size] = count;
        return previous;
    }

    private int plies(int[] ratios) {
        for (int plies = 0; plies < 100; plies++) {
            if (plies * ratios[0] >= s.ordered[0] && plies * ratios[1] >= s.ordered[1]
                    && plies * ratios[2] >= s.ordered[2]) {
                return plies;
            }
        }
        return -1008;
    }

    int plies() {
        return plies(s.ratios);
    }

    private int cloth(int[] ratios) {
        int plies = plies(ratios);
        int length = length(ratios, s.method, s.order);
        return plies < 0 ? -1008 : length < 0 ? -1007 : plies * length;
    }

    int clothLength() {
        return cloth(s.ratios);
    }

    private int surplus(int[] ratios) {
        int plies = plies(ratios);
        int garments = plies * (ratios[0] + ratios[1] + ratios[2]);
        return plies < 0 ? -1008 : garments - s.ordered[0] - s.ordered[1] - s.ordered[2];
    }

    int surplus() {
        return surplus(s.ratios);
    }

    private List<int[]> goodRatios() {
        List<int[]> good = new ArrayList<>();
        for (int number = 1; number <= 222; number++) {
            int[] ratios = {number / 100, number / 10 % 10, number % 10};
            if (ratios[0] <= 2 && ratios[1] <= 2 && ratios[2] <= 2 && cloth(ratios) >= 0) {
                good.add(ratios);
            }
        }
        return good;
    }

    int goodMixes() {
        return goodRatios().size();
    }

    private int[] bestRatios() {
        return goodRatios().stream().min(Comparator.comparingInt(this::cloth)
                .thenComparingInt(this::surplus)
                .thenComparingInt(ratios -> 100 * ratios[0] + 10 * ratios[1] + ratios[2]))
                .orElse(null);
    }

    int bestMix() {
        int[] best = bestRatios();
        return best == null ? -1009 : 100 * best[0] + 10 * best[1] + best[2];
    }

    int bestMixCloth() {
        int[] best = bestRatios();
        return best == null ? -1009 : cloth(best);
    }

    int applyBestMix() {
        int[] best = bestRatios();
        if (best == null) {
            return -1009;
        }
        s.ratios = best;
        return markerLength();
    }

    int save(int slot) {
        if (slot < 0 || slot > 1) {
            return -1005;
        }
        slots[slot] = s.copy();
        return 1;
    }

    int restore(int slot) {
        if (slot < 0 || slot > 1) {
            return -1005;
        }
        if (slots[slot] == null) {
            return -1011;
        }
        s = slots[slot].copy();
        return 1;
    }
}
