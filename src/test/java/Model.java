import java.util.ArrayList;
import java.util.List;

/** The document's state, word for word and with a view of its own, to compare the class with. */
final class Model {
    private record Block(int place, int[] levels) {
    }

    private final int cap;
    private final int[] staged = new int[16];
    private final List<Block> stream = new ArrayList<>();
    private boolean open = true;
    private int decoded = 0;
    private int viewPlace = -1;
    private int[] view = new int[16];

    Model(int maxBlocks) {
        cap = Math.max(1, Math.min(6, maxBlocks));
    }

    boolean setLevel(int pos, int level) {
        if (pos < 0 || pos > 15 || level < -32768 || level > 32768) {
            return false;
        }
        staged[pos] = level;
        return true;
    }

    boolean setPair(int pair, int a, int b) {
        boolean aFits = a >= -32768 && a <= 32768;
        boolean bFits = b >= -32768 && b <= 32768;
        if (pair < 0 || pair > 7 || !aFits || !bFits) {
            return false;
        }
        staged[2 * pair] = a;
        staged[2 * pair + 1] = b;
        return true;
    }

    void clearStaging() {
        java.util.Arrays.fill(staged, 0);
    }

    int commit(int place) {
        if (!open) {
            return -1;
        }
        if (place < 0 || place > 15) {
            return -2;
        }
        if (isUsed(place)) {
            return -3;
        }
        if (stream.size() == cap) {
            return -4;
        }
        stream.add(new Block(place, staged.clone()));
        return stream.size() - 1;
    }

    boolean finish() {
        if (!open) {
            return false;
        }
        open = false;
        clearView();
        return true;
    }

    int decodeNext() {
        if (open) {
            return -5;
        }
        if (decoded == stream.size()) {
            return -6;
        }
        Block block = stream.get(decoded);
        decoded++;
        viewPlace = block.place();
        view = block.levels().clone();
        return viewPlace;
    }

    boolean rewind() {
        if (open) {
            return false;
        }
        clearView();
        return true;
    }

    void reset() {
        open = true;
        stream.clear();
        clearView();
    }

    String all() {
        StringBuilder used = new StringBuilder();
        for (int place = 0; place < 16; place++) {
            used.append(isUsed(place) ? place + " " : "");
        }
        return Blocks.shown(cap, open, stream.size(), used.toString(), Blocks.text(staged),
                decoded + " at " + viewPlace + ": " + Blocks.text(view));
    }

    private boolean isUsed(int place) {
        return stream.stream().anyMatch(block -> block.place() == place);
    }

    private void clearView() {
        decoded = 0;
        viewPlace = -1;
        view = new int[16];
    }
}
