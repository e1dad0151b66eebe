/**
 * Takes blocks of 16 transform levels into a stream and gives them back in order.
 *
 * The document leaves the form of the stream free and says that the blocks need not be
 * coded at all. They are held here as plain numbers: no bin is ever made, so the round
 * trip can't be lost to an arithmetic coder, and room for every block is there from the start.
 */
public final class CabacResidual {
    public static final int MIN_LEVEL = -32768;
    public static final int MAX_LEVEL = 32768;
    public static final int COEFFS = 16;
    public static final int PLACES = 16;
    public static final int MIN_BLOCKS = 1;
    public static final int MAX_BLOCKS = 6;
    public static final int R_CLOSED = -1;
    public static final int R_BAD_PLACE = -2;
    public static final int R_PLACE_USED = -3;
    public static final int R_FULL = -4;
    public static final int R_OPEN = -5;
    public static final int R_END = -6;

    private static final int PAIRS = COEFFS / 2;
    private static final int STREAM_LEVELS = MAX_BLOCKS * COEFFS;
    private static final int NO_PLACE = -1;

    private final int[] staged = new int[COEFFS];

    // Block i of the stream has its levels at 16 * i and up, and its place at i.
    private final int[] streamLevels = new int[STREAM_LEVELS];
    private final int[] streamPlaces = new int[MAX_BLOCKS];
    private final boolean[] used = new boolean[PLACES];

    private final int cap;
    private int blocks;
    private boolean open;

    // The view is always block decoded - 1, or none at 0. It needs no copy of its own,
    // because a closed stream doesn't change and an open one has decoded == 0.
    private int decoded;

    public CabacResidual(int maxBlocks) {
        cap = clampBlocks(maxBlocks);
        blocks = 0;
        decoded = 0;
        open = true;
    }

    public boolean setLevel(int pos, int level) {
        if (!isPosition(pos) || !isLevel(level)) {
            return false;
        }
        staged[pos] = level;
        return true;
    }

    public boolean setPair(int pair, int a, int b) {
        if (pair < 0 || pair >= PAIRS || !isLevel(a) || !isLevel(b)) {
            return false;
        }
        staged[2 * pair] = a;
        staged[2 * pair + 1] = b;
        return true;
    }

    public void clearStaging() {
        for (int pos = 0; pos < COEFFS; pos++) {
            staged[pos] = 0;
        }
    }

    public int getStaged(int pos) {
        return isPosition(pos) ? staged[pos] : 0;
    }

    public int commit(int place) {
        if (!open) {
            return R_CLOSED;
        }
        if (!isPlace(place)) {
            return R_BAD_PLACE;
        }
        if (used[place]) {
            return R_PLACE_USED;
        }
        if (blocks >= cap) {
            return R_FULL;
        }
        int index = blocks;
        copyStagedTo(index);
        streamPlaces[index] = place;
        used[place] = true;
        blocks = index + 1;
        return index;
    }

    public boolean finish() {
        if (!open) {
            return false;
        }
        open = false;
        decoded = 0;
        return true;
    }

    public int decodeNext() {
        if (open) {
            return R_OPEN;
        }
        if (decoded >= blocks) {
            return R_END;
        }
        int place = streamPlaces[decoded];
        decoded = decoded + 1;
        return place;
    }

    public boolean rewind() {
        if (open) {
            return false;
        }
        decoded = 0;
        return true;
    }

    public void reset() {
        for (int place = 0; place < PLACES; place++) {
            used[place] = false;
        }
        blocks = 0;
        decoded = 0;
        open = true;
    }

    public int getDecoded(int pos) {
        if (decoded == 0 || !isPosition(pos)) {
            return 0;
        }
        return streamLevels[(decoded - 1) * COEFFS + pos];
    }

    public int decodedPlace() {
        return decoded == 0 ? NO_PLACE : streamPlaces[decoded - 1];
    }

    public int decodedCount() {
        return decoded;
    }

    public int blockCount() {
        return blocks;
    }

    public boolean isOpen() {
        return open;
    }

    public boolean placeUsed(int place) {
        return isPlace(place) && used[place];
    }

    public int capacity() {
        return cap;
    }

    private void copyStagedTo(int index) {
        int start = index * COEFFS;
        for (int pos = 0; pos < COEFFS; pos++) {
            streamLevels[start + pos] = staged[pos];
        }
    }

    private static int clampBlocks(int maxBlocks) {
        if (maxBlocks < MIN_BLOCKS) {
            return MIN_BLOCKS;
        }
        return maxBlocks > MAX_BLOCKS ? MAX_BLOCKS : maxBlocks;
    }

    private static boolean isPosition(int pos) {
        return pos >= 0 && pos < COEFFS;
    }

    private static boolean isLevel(int level) {
        return level >= MIN_LEVEL && level <= MAX_LEVEL;
    }

    private static boolean isPlace(int place) {
        return place >= 0 && place < PLACES;
    }
}
