/**
 * Plans markers for cutting garments: pieces graded to sizes, a check of the seams, rectangle
 * packing on a strip of cloth, and the choice of a size mix for an order.
 */
public final class GarmentMarker {
    public static final int NO_SUCH_PIECE = -1001, NO_SUCH_SIZE = -1002, NO_SUCH_SEAM = -1003,
            NO_SUCH_PART = -1004, OUT_OF_RANGE = -1005, TOO_MANY_SEAMS = -1006, NO_LAYOUT = -1007,
            NO_PLIES = -1008, NO_GOOD_MIX = -1009, NONE = -1010, NOT_SAVED = -1011;
    public static final int WIDTH_SIDE = 0, LENGTH_SIDE = 1;
    public static final int SHELVES = 0, FIRST_FREE = 1;
    public static final int BY_INDEX = 0, BY_ALONG = 1, BY_ACROSS = 2, BY_AREA = 3;

    private static final int PIECES = 6, SIZES = 3, SEAMS = 6, SLOTS = 2;
    private static final int MOST_COPIES = 2, MOST_RATIO = 2;
    private static final int MOST_PARTS = PIECES * MOST_COPIES * SIZES * MOST_RATIO;
    private static final int METHODS = 2, ORDERS = 4;
    /** The mixes bear the indices 1 to 26; index 0, three ratios of 0, is no mix. */
    private static final int MIXES = 27, NO_MIX = 0;
    private static final int NO_PLACE = -1;

    private final State now;
    private final State[] slots;
    private final boolean[] saved;
    private final Marker marker;
    /** The ratios of the mix that is looked at; one row for all calls, so that no call makes any. */
    private final int[] mix;

    public GarmentMarker() {
        now = new State();
        slots = new State[SLOTS];
        for (int i = 0; i < SLOTS; i++) {
            slots[i] = new State();
        }
        saved = new boolean[SLOTS];
        marker = new Marker();
        mix = new int[SIZES];
    }

    public int definePiece(int piece, int width, int length, int widthGrowth, int lengthGrowth,
            int copies) {
        if (!isWithin(piece, 0, PIECES - 1)) {
            return NO_SUCH_PIECE;
        }
        if (!isWithin(width, 1, 12) || !isWithin(length, 1, 12) || !isWithin(widthGrowth, 0, 3)
                || !isWithin(lengthGrowth, 0, 3) || !isWithin(copies, 1, MOST_COPIES)) {
            return OUT_OF_RANGE;
        }
        Piece target = now.pieces[piece];
        target.defined = true;
        target.width = width;
        target.length = length;
        target.widthGrowth = widthGrowth;
        target.lengthGrowth = lengthGrowth;
        target.copies = copies;
        return now.definedPieces();
    }

    public int removePiece(int piece) {
        if (!now.isDefined(piece)) {
            return NO_SUCH_PIECE;
        }
        now.pieces[piece].defined = false;
        now.removeSeamsOf(piece);
        return now.seamTotal;
    }

    public int pieceWidth(int piece, int size) {
        return sideOrError(piece, WIDTH_SIDE, size);
    }

    public int pieceLength(int piece, int size) {
        return sideOrError(piece, LENGTH_SIDE, size);
    }

    public int addSeam(int firstPiece, int firstSide, int secondPiece, int secondSide, int ease) {
        if (!now.isDefined(firstPiece) || !now.isDefined(secondPiece)) {
            return NO_SUCH_PIECE;
        }
        if (!isWithin(firstSide, WIDTH_SIDE, LENGTH_SIDE)
                || !isWithin(secondSide, WIDTH_SIDE, LENGTH_SIDE) || !isWithin(ease, -3, 3)) {
            return OUT_OF_RANGE;
        }
        int index = now.seamTotal;
        if (index >= SEAMS) {
            return TOO_MANY_SEAMS;
        }
        Seam seam = now.seams[index];
        seam.firstPiece = firstPiece;
        seam.firstSide = firstSide;
        seam.secondPiece = secondPiece;
        seam.secondSide = secondSide;
        seam.ease = ease;
        now.seamTotal = index + 1;
        return index;
    }

    public int seamCount() {
        return now.seamTotal;
    }

    public int seamDifference(int seam, int size) {
        if (!isWithin(seam, 0, now.seamTotal - 1)) {
            return NO_SUCH_SEAM;
        }
        if (!isSize(size)) {
            return NO_SUCH_SIZE;
        }
        return now.differenceOf(now.seams[seam], size);
    }

    public int matchingSeams() {
        int matching = 0;
        for (int seam = 0; seam < now.seamTotal; seam++) {
            if (now.matchesInAllSizes(now.seams[seam])) {
                matching++;
            }
        }
        return matching;
    }

    public int firstMismatch() {
        for (int seam = 0; seam < now.seamTotal; seam++) {
            if (!now.matchesInAllSizes(now.seams[seam])) {
                return seam;
            }
        }
        return NONE;
    }

    public int setRatio(int size, int count) {
        if (!isSize(size)) {
            return NO_SUCH_SIZE;
        }
        if (!isWithin(count, 0, MOST_RATIO)) {
            return OUT_OF_RANGE;
        }
        int previous = now.ratios[size];
        now.ratios[size] = count;
        return previous;
    }

    public int ratio(int size) {
        return isSize(size) ? now.ratios[size] : NO_SUCH_SIZE;
    }

    public int setClothWidth(int width) {
        if (!isWithin(width, 4, 24)) {
            return OUT_OF_RANGE;
        }
        int previous = now.clothWidth;
        now.clothWidth = width;
        return previous;
    }

    public boolean setFolded(boolean folded) {
        boolean previous = now.folded;
        now.folded = folded;
        return previous;
    }

    public boolean setRotation(boolean allowed) {
        boolean previous = now.rotation;
        now.rotation = allowed;
        return previous;
    }

    public int setPacking(int method, int order) {
        if (!isPacking(method, order)) {
            return OUT_OF_RANGE;
        }
        int previous = packingNumber(now.method, now.order);
        now.method = method;
        now.order = order;
        return previous;
    }

    public int partCount() {
        marker.makeParts(now, now.ratios);
        return marker.total;
    }

    public int foldPartCount() {
        marker.makeParts(now, now.ratios);
        return marker.foldParts();
    }

    public int partSize(int part) {
        marker.makeParts(now, now.ratios);
        return marker.has(part) ? marker.parts[part].size : NO_SUCH_PART;
    }

    public int partPiece(int part) {
        marker.makeParts(now, now.ratios);
        return marker.has(part) ? marker.parts[part].piece : NO_SUCH_PART;
    }

    public int partAlong(int part) {
        int error = placeOrError(part);
        return error == 0 ? marker.parts[part].along : error;
    }

    public int partAcross(int part) {
        int error = placeOrError(part);
        return error == 0 ? marker.parts[part].across : error;
    }

    public int partAlongExtent(int part) {
        marker.makeParts(now, now.ratios);
        return marker.has(part) ? marker.parts[part].alongExtent : NO_SUCH_PART;
    }

    public int partAcrossExtent(int part) {
        marker.makeParts(now, now.ratios);
        return marker.has(part) ? marker.parts[part].acrossExtent : NO_SUCH_PART;
    }

    public int markerLength() {
        return lengthFor(now.ratios);
    }

    public int wastedArea() {
        int length = lengthFor(now.ratios);
        return length == NO_LAYOUT ? NO_LAYOUT : length * marker.stripWidth - marker.partsArea();
    }

    public int markerLengthWith(int method, int order) {
        if (!isPacking(method, order)) {
            return OUT_OF_RANGE;
        }
        marker.makeParts(now, now.ratios);
        return marker.lengthPacked(method, order);
    }

    public int bestLength() {
        int best = findBestPacking();
        return best == NO_LAYOUT ? NO_LAYOUT : marker.lengthPacked(best / 10, best % 10);
    }

    public int bestPacking() {
        return findBestPacking();
    }

    public int setOrdered(int size, int count) {
        if (!isSize(size)) {
            return NO_SUCH_SIZE;
        }
        if (!isWithin(count, 0, 99)) {
            return OUT_OF_RANGE;
        }
        int previous = now.ordered[size];
        now.ordered[size] = count;
        return previous;
    }

    public int plies() {
        return now.pliesFor(now.ratios);
    }

    public int clothLength() {
        int plies = now.pliesFor(now.ratios);
        if (plies == NO_PLIES) {
            return NO_PLIES;
        }
        int length = lengthFor(now.ratios);
        return length == NO_LAYOUT ? NO_LAYOUT : plies * length;
    }

    public int surplus() {
        int plies = now.pliesFor(now.ratios);
        return plies == NO_PLIES ? NO_PLIES : now.surplusFor(now.ratios, plies);
    }

    public int goodMixes() {
        int good = 0;
        for (int index = NO_MIX + 1; index < MIXES; index++) {
            lookAtMix(index);
            marker.makeParts(now, mix);
            if (now.pliesFor(mix) != NO_PLIES && marker.hasLayout()) {
                good++;
            }
        }
        return good;
    }

    public int bestMix() {
        int best = findBestMix();
        if (best == NO_MIX) {
            return NO_GOOD_MIX;
        }
        lookAtMix(best);
        return 100 * mix[0] + 10 * mix[1] + mix[2];
    }

    public int bestMixCloth() {
        int best = findBestMix();
        if (best == NO_MIX) {
            return NO_GOOD_MIX;
        }
        lookAtMix(best);
        return now.pliesFor(mix) * lengthFor(mix);
    }

    public int applyBestMix() {
        int best = findBestMix();
        if (best == NO_MIX) {
            return NO_GOOD_MIX;
        }
        lookAtMix(best);
        System.arraycopy(mix, 0, now.ratios, 0, SIZES);
        return lengthFor(now.ratios);
    }

    public int save(int slot) {
        if (!isWithin(slot, 0, SLOTS - 1)) {
            return OUT_OF_RANGE;
        }
        slots[slot].copyFrom(now);
        saved[slot] = true;
        return 1;
    }

    public int restore(int slot) {
        if (!isWithin(slot, 0, SLOTS - 1)) {
            return OUT_OF_RANGE;
        }
        if (!saved[slot]) {
            return NOT_SAVED;
        }
        now.copyFrom(slots[slot]);
        return 1;
    }

    private static boolean isWithin(int value, int least, int most) {
        return value >= least && value <= most;
    }

    private static boolean isSize(int size) {
        return isWithin(size, 0, SIZES - 1);
    }

    private static boolean isPacking(int method, int order) {
        return isWithin(method, 0, METHODS - 1) && isWithin(order, 0, ORDERS - 1);
    }

    private static int packingNumber(int method, int order) {
        return 10 * method + order;
    }

    private int sideOrError(int piece, int side, int size) {
        if (!now.isDefined(piece)) {
            return NO_SUCH_PIECE;
        }
        return isSize(size) ? now.pieces[piece].sideIn(side, size) : NO_SUCH_SIZE;
    }

    /** Places the parts of the marker; answers 0, or the error for the part asked about. */
    private int placeOrError(int part) {
        marker.makeParts(now, now.ratios);
        if (!marker.has(part)) {
            return NO_SUCH_PART;
        }
        return marker.lengthPacked(now.method, now.order) == NO_LAYOUT ? NO_LAYOUT : 0;
    }

    private int lengthFor(int[] ratios) {
        marker.makeParts(now, ratios);
        return marker.lengthPacked(now.method, now.order);
    }

    /** Leaves the parts of the current ratios in the marker. */
    private int findBestPacking() {
        marker.makeParts(now, now.ratios);
        if (!marker.hasLayout()) {
            return NO_LAYOUT;
        }
        int best = NO_LAYOUT;
        int shortest = 0;
        for (int method = 0; method < METHODS; method++) {
            for (int order = 0; order < ORDERS; order++) {
                int length = marker.lengthPacked(method, order);
                if (best == NO_LAYOUT || length < shortest) {
                    best = packingNumber(method, order);
                    shortest = length;
                }
            }
        }
        return best;
    }

    /** The indices ascend as the numbers of the mixes do, so the first of equals is the smaller. */
    private void lookAtMix(int index) {
        mix[0] = index / 9;
        mix[1] = index / 3 % 3;
        mix[2] = index % 3;
    }

    private int findBestMix() {
        int best = NO_MIX;
        int bestCloth = 0;
        int bestSurplus = 0;
        for (int index = NO_MIX + 1; index < MIXES; index++) {
            lookAtMix(index);
            marker.makeParts(now, mix);
            int plies = now.pliesFor(mix);
            if (plies != NO_PLIES && marker.hasLayout()) {
                int cloth = plies * marker.lengthPacked(now.method, now.order);
                int surplus = now.surplusFor(mix, plies);
                if (best == NO_MIX || cloth < bestCloth
                        || cloth == bestCloth && surplus < bestSurplus) {
                    best = index;
                    bestCloth = cloth;
                    bestSurplus = surplus;
                }
            }
        }
        return best;
    }

    private static final class Piece {
        boolean defined;
        int width;
        int length;
        int widthGrowth;
        int lengthGrowth;
        int copies;

        void copyFrom(Piece other) {
            defined = other.defined;
            width = other.width;
            length = other.length;
            widthGrowth = other.widthGrowth;
            lengthGrowth = other.lengthGrowth;
            copies = other.copies;
        }

        int sideIn(int side, int size) {
            return side == WIDTH_SIDE ? width + size * widthGrowth : length + size * lengthGrowth;
        }
    }

    private static final class Seam {
        int firstPiece;
        int firstSide;
        int secondPiece;
        int secondSide;
        int ease;

        void copyFrom(Seam other) {
            firstPiece = other.firstPiece;
            firstSide = other.firstSide;
            secondPiece = other.secondPiece;
            secondSide = other.secondSide;
            ease = other.ease;
        }

        boolean uses(int piece) {
            return firstPiece == piece || secondPiece == piece;
        }
    }

    /** All that a save slot keeps. */
    private static final class State {
        final Piece[] pieces;
        final Seam[] seams;
        int seamTotal;
        final int[] ratios;
        final int[] ordered;
        int clothWidth;
        boolean folded;
        boolean rotation;
        int method;
        int order;

        State() {
            pieces = new Piece[PIECES];
            for (int i = 0; i < PIECES; i++) {
                pieces[i] = new Piece();
            }
            seams = new Seam[SEAMS];
            for (int i = 0; i < SEAMS; i++) {
                seams[i] = new Seam();
            }
            ratios = new int[SIZES];
            ratios[0] = 1;
            ordered = new int[SIZES];
            clothWidth = 12;
            method = SHELVES;
            order = BY_INDEX;
        }

        void copyFrom(State other) {
            for (int i = 0; i < PIECES; i++) {
                pieces[i].copyFrom(other.pieces[i]);
            }
            for (int i = 0; i < SEAMS; i++) {
                seams[i].copyFrom(other.seams[i]);
            }
            seamTotal = other.seamTotal;
            System.arraycopy(other.ratios, 0, ratios, 0, SIZES);
            System.arraycopy(other.ordered, 0, ordered, 0, SIZES);
            clothWidth = other.clothWidth;
            folded = other.folded;
            rotation = other.rotation;
            method = other.method;
            order = other.order;
        }

        boolean isDefined(int piece) {
            return isWithin(piece, 0, PIECES - 1) && pieces[piece].defined;
        }

        int definedPieces() {
            int count = 0;
            for (int i = 0; i < PIECES; i++) {
                if (pieces[i].defined) {
                    count++;
                }
            }
            return count;
        }

        void removeSeamsOf(int piece) {
            int kept = 0;
            for (int i = 0; i < seamTotal; i++) {
                if (!seams[i].uses(piece)) {
                    seams[kept].copyFrom(seams[i]);
                    kept++;
                }
            }
            seamTotal = kept;
        }

        int differenceOf(Seam seam, int size) {
            int first = pieces[seam.firstPiece].sideIn(seam.firstSide, size);
            int second = pieces[seam.secondPiece].sideIn(seam.secondSide, size);
            return first - second - seam.ease;
        }

        boolean matchesInAllSizes(Seam seam) {
            for (int size = 0; size < SIZES; size++) {
                if (differenceOf(seam, size) != 0) {
                    return false;
                }
            }
            return true;
        }

        int pliesFor(int[] someRatios) {
            int most = 0;
            for (int size = 0; size < SIZES; size++) {
                int perPly = someRatios[size];
                if (ordered[size] > 0) {
                    if (perPly == 0) {
                        return NO_PLIES;
                    }
                    most = Math.max(most, (ordered[size] + perPly - 1) / perPly);
                }
            }
            return most;
        }

        int surplusFor(int[] someRatios, int plyCount) {
            int sum = 0;
            for (int size = 0; size < SIZES; size++) {
                sum += plyCount * someRatios[size] - ordered[size];
            }
            return sum;
        }
    }

    private static final class Part {
        int size;
        int piece;
        boolean fold;
        int alongExtent;
        int acrossExtent;
        int along;
        int across;
        int alongEnd;
        /** One bit for each step across that the part covers; the strip has 24 at most. */
        int acrossBits;

        void placeAt(int newAlong, int newAcross) {
            along = newAlong;
            across = newAcross;
            alongEnd = newAlong + alongExtent;
            acrossBits = ((1 << acrossExtent) - 1) << newAcross;
        }

        int sortKey(int order) {
            switch (order) {
                case BY_ALONG:
                    return alongExtent;
                case BY_ACROSS:
                    return acrossExtent;
                case BY_AREA:
                    return alongExtent * acrossExtent;
                default:
                    return 0;
            }
        }
    }

    /** The parts for one choice of ratios and their places; its rows serve all calls. */
    private static final class Marker {
        final Part[] parts;
        int total;
        int stripWidth;
        final int[] sequence;
        final int[] shelfStart;
        final int[] shelfDepth;
        final int[] shelfUsed;

        Marker() {
            parts = new Part[MOST_PARTS];
            for (int i = 0; i < MOST_PARTS; i++) {
                parts[i] = new Part();
            }
            sequence = new int[MOST_PARTS];
            shelfStart = new int[MOST_PARTS];
            shelfDepth = new int[MOST_PARTS];
            shelfUsed = new int[MOST_PARTS];
        }

        void makeParts(State state, int[] ratios) {
            stripWidth = state.folded ? state.clothWidth / 2 : state.clothWidth;
            total = 0;
            for (int size = 0; size < SIZES; size++) {
                for (int garment = 0; garment < ratios[size]; garment++) {
                    makeGarment(state, size);
                }
            }
        }

        void makeGarment(State state, int size) {
            for (int piece = 0; piece < PIECES; piece++) {
                if (state.pieces[piece].defined) {
                    int copies = state.folded ? 1 : state.pieces[piece].copies;
                    for (int copy = 0; copy < copies; copy++) {
                        makePart(state, size, piece);
                    }
                }
            }
        }

        void makePart(State state, int size, int index) {
            if (total >= MOST_PARTS) {
                return;
            }
            Piece piece = state.pieces[index];
            Part part = parts[total];
            total++;
            int width = piece.sideIn(WIDTH_SIDE, size);
            int length = piece.sideIn(LENGTH_SIDE, size);
            part.size = size;
            part.piece = index;
            part.fold = state.folded && piece.copies == 1;
            if (part.fold) {
                part.acrossExtent = (width + 1) / 2;
                part.alongExtent = length;
            } else {
                boolean turned = state.rotation && isBetterTurned(width, length);
                part.acrossExtent = turned ? length : width;
                part.alongExtent = turned ? width : length;
            }
        }

        boolean isBetterTurned(int width, int length) {
            return length <= stripWidth && (width > stripWidth || width < length);
        }

        boolean has(int part) {
            return isWithin(part, 0, total - 1);
        }

        int foldParts() {
            int count = 0;
            for (int i = 0; i < total; i++) {
                if (parts[i].fold) {
                    count++;
                }
            }
            return count;
        }

        int partsArea() {
            int area = 0;
            for (int i = 0; i < total; i++) {
                area += parts[i].alongExtent * parts[i].acrossExtent;
            }
            return area;
        }

        boolean hasLayout() {
            for (int i = 0; i < total; i++) {
                if (parts[i].acrossExtent > stripWidth) {
                    return false;
                }
            }
            return true;
        }

        int lengthPacked(int method, int order) {
            if (!hasLayout()) {
                return NO_LAYOUT;
            }
            sortParts(order);
            if (method == SHELVES) {
                packShelves();
            } else {
                packFirstFree();
            }
            int end = 0;
            for (int i = 0; i < total; i++) {
                end = Math.max(end, parts[i].alongEnd);
            }
            return end;
        }

        /** Parts of equal keys never pass each other, so ties stay in ascending index. */
        void sortParts(int order) {
            for (int i = 0; i < total; i++) {
                int key = parts[i].sortKey(order);
                int place = i;
                while (place > 0 && parts[sequence[place - 1]].sortKey(order) < key) {
                    sequence[place] = sequence[place - 1];
                    place--;
                }
                sequence[place] = i;
            }
        }

        void packShelves() {
            int shelves = 0;
            int end = 0;
            for (int i = 0; i < total; i++) {
                Part part = parts[sequence[i]];
                int shelf = part.fold ? shelves : firstShelfFor(part, shelves);
                if (shelf == shelves) {
                    shelfStart[shelf] = end;
                    shelfDepth[shelf] = part.alongExtent;
                    shelfUsed[shelf] = 0;
                    end += part.alongExtent;
                    shelves++;
                }
                part.placeAt(shelfStart[shelf], shelfUsed[shelf]);
                shelfUsed[shelf] += part.acrossExtent;
            }
        }

        int firstShelfFor(Part part, int shelves) {
            for (int shelf = 0; shelf < shelves; shelf++) {
                if (part.alongExtent <= shelfDepth[shelf]
                        && shelfUsed[shelf] + part.acrossExtent <= stripWidth) {
                    return shelf;
                }
            }
            return shelves;
        }

        void packFirstFree() {
            for (int placed = 0; placed < total; placed++) {
                placeFirstFree(parts[sequence[placed]], placed);
            }
        }

        /**
         * Looks only at the strip's start and at the ends of the parts placed before: from any
         * other free place the part could still be moved toward the start.
         */
        void placeFirstFree(Part part, int placed) {
            int along = 0;
            int across = firstGap(part, takenBits(part, 0, placed));
            for (int i = 0; i < placed; i++) {
                int end = parts[sequence[i]].alongEnd;
                if (across == NO_PLACE || end < along) {
                    int gap = firstGap(part, takenBits(part, end, placed));
                    if (gap != NO_PLACE) {
                        along = end;
                        across = gap;
                    }
                }
            }
            part.placeAt(along, across);
        }

        /** The steps across that are not free for the whole of the part's extent along. */
        int takenBits(Part part, int along, int placed) {
            int taken = 0;
            int end = along + part.alongExtent;
            for (int i = 0; i < placed; i++) {
                Part other = parts[sequence[i]];
                if (other.alongEnd > along && other.along < end) {
                    taken |= other.acrossBits;
                }
            }
            return taken;
        }

        int firstGap(Part part, int taken) {
            int own = (1 << part.acrossExtent) - 1;
            int last = part.fold ? 0 : stripWidth - part.acrossExtent;
            for (int across = 0; across <= last; across++) {
                if ((taken >> across & own) == 0) {
                    return across;
                }
            }
            return NO_PLACE;
        }
    }
}
