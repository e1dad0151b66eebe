/** What the tests share: staging a block, and everything an object shows, as text. */
final class Blocks {
    static final int[] OUTSIDE_16 = {Integer.MIN_VALUE, -16, -1, 16, 17, 32, Integer.MAX_VALUE};
    static final int[] OUTSIDE_LEVELS = {Integer.MIN_VALUE, -65536, -32769, 32769, 65536, Integer.MAX_VALUE};
    static final int[] ZEROS = new int[16];

    private Blocks() {
    }

    /** Sixteen levels that differ from each other and from those of any other small seed. */
    static int[] levels(int seed) {
        int[] levels = new int[16];
        for (int pos = 0; pos < 16; pos++) {
            int size = 1000 * seed + 7 * pos + 1;
            levels[pos] = pos % 2 == 0 ? size : -size;
        }
        return levels;
    }

    static void stage(CabacResidual x, int[] levels) {
        for (int pos = 0; pos < 16; pos++) {
            Due.is("setLevel(" + pos + ", " + levels[pos] + ")", x.setLevel(pos, levels[pos]), true);
        }
    }

    static String staged(CabacResidual x) {
        StringBuilder text = new StringBuilder();
        for (int pos = 0; pos < 16; pos++) {
            text.append(x.getStaged(pos)).append(' ');
        }
        return text.toString();
    }

    static String decoded(CabacResidual x) {
        StringBuilder text = new StringBuilder();
        for (int pos = 0; pos < 16; pos++) {
            text.append(x.getDecoded(pos)).append(' ');
        }
        return text.toString();
    }

    static String text(int[] levels) {
        StringBuilder text = new StringBuilder();
        for (int level : levels) {
            text.append(level).append(' ');
        }
        return text.toString();
    }

    static String usedPlaces(CabacResidual x) {
        StringBuilder text = new StringBuilder();
        for (int place = 0; place < 16; place++) {
            if (x.placeUsed(place)) {
                text.append(place).append(' ');
            }
        }
        return text.toString();
    }

    /** Every getter's answer; two equal texts are two equal states but for blocks not yet decoded. */
    static String all(CabacResidual x) {
        return shown(x.capacity(), x.isOpen(), x.blockCount(), usedPlaces(x), staged(x),
                x.decodedCount() + " at " + x.decodedPlace() + ": " + decoded(x));
    }

    static String shown(int cap, boolean open, int n, String used, String staged, String view) {
        return "cap " + cap + (open ? " OPEN" : " CLOSED") + " n " + n + " used [" + used + "] staged ["
                + staged + "] decoded " + view;
    }

    static String fresh(int cap) {
        return shown(cap, true, 0, "", text(ZEROS), "0 at -1: " + text(ZEROS));
    }

    /** Reads one block and compares its place and all its levels. */
    static void dueNext(CabacResidual x, int place, int[] levels) {
        Due.is("decodeNext()", x.decodeNext(), place);
        Due.is("decodedPlace()", x.decodedPlace(), place);
        Due.is("levels of the block at " + place, decoded(x), text(levels));
    }
}
