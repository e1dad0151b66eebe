import java.util.Arrays;

/** What the tests share: staging a block, and everything an object shows, as text. */
final class Blocks {
    // Among these are numbers that would be in range if they were cut to a byte or a short,
    // or if twice or sixteen times the number wrapped around.
    static final int[] BELOW_0 = {Integer.MIN_VALUE, Integer.MIN_VALUE + 1, Integer.MIN_VALUE + 5, -65536, -65533,
        -32768, -256, -253, -17, -16, -15, -2, -1};
    static final int[] ABOVE_15 = {16, 17, 31, 32, 255, 256, 259, 32768, 65536, 65539, 1 << 28, (1 << 28) + 3,
        1 << 30, (1 << 30) + 5, Integer.MAX_VALUE - 1, Integer.MAX_VALUE};
    static final int[] ABOVE_7 = {8, 9, 15, 16, 255, 256, 259, 32768, 65536, 65539, 1 << 30, (1 << 30) + 5,
        Integer.MAX_VALUE - 1, Integer.MAX_VALUE};
    static final int[] BELOW_LEVELS = {Integer.MIN_VALUE, Integer.MIN_VALUE + 1, Integer.MIN_VALUE + 32768,
        -65541, -65537, -65536, -65535, -32770, -32769};
    static final int[] ABOVE_LEVELS = {32769, 32770, 65535, 65536, 65537, 65541, Integer.MAX_VALUE - 32768,
        Integer.MAX_VALUE - 1, Integer.MAX_VALUE};
    static final int[] OUTSIDE_16 = joined(BELOW_0, ABOVE_15);
    static final int[] OUTSIDE_8 = joined(BELOW_0, ABOVE_7);
    static final int[] OUTSIDE_LEVELS = joined(BELOW_LEVELS, ABOVE_LEVELS);
    static final int[] ZEROS = new int[16];

    private Blocks() {
    }

    private static int[] joined(int[] low, int[] high) {
        int[] both = Arrays.copyOf(low, low.length + high.length);
        System.arraycopy(high, 0, both, low.length, high.length);
        return both;
    }

    /** Sixteen levels that differ from each other and from those of any other small seed. */
    static int[] levels(int seed) {
        int[] levels = new int[16];
        for (int pos = 0; pos < 16; pos++) {
            int size = 1000 * seed + 7 * pos + 1;
            levels[pos] = pos % 2 == 0 ? size : -size;
        }
        return levels;
    }

    static void stage(CabacResidual x, int[] levels) {
        for (int pos = 0; pos < 16; pos++) {
            Due.is("setLevel(" + pos + ", " + levels[pos] + ")", x.setLevel(pos, levels[pos]), true);
        }
    }

    static String staged(CabacResidual x) {
        StringBuilder text = new StringBuilder();
        for (int pos = 0; pos < 16; pos++) {
            text.append(x.getStaged(pos)).append(' ');
        }
        return text.toString();
    }

    static String decoded(CabacResidual x) {
        StringBuilder text = new StringBuilder();
        for (int pos = 0; pos < 16; pos++) {
            text.append(x.getDecoded(pos)).append(' ');
        }
        return text.toString();
    }

    static String text(int[] levels) {
        StringBuilder text = new StringBuilder();
        for (int level : levels) {
            text.append(level).append(' ');
        }
        return text.toString();
    }

    static String usedPlaces(CabacResidual x) {
        StringBuilder text = new StringBuilder();
        for (int place = 0; place < 16; place++) {
            if (x.placeUsed(place)) {
                text.append(place).append(' ');
            }
        }
        return text.toString();
    }

    /** Every getter's answer; two equal texts are two equal states but for blocks not yet decoded. */
    static String all(CabacResidual x) {
        return shown(x.capacity(), x.isOpen(), x.blockCount(), usedPlaces(x), staged(x),
                x.decodedCount() + " at " + x.decodedPlace() + ": " + decoded(x));
    }

    static String shown(int cap, boolean open, int n, String used, String staged, String view) {
        return "cap " + cap + (open ? " OPEN" : " CLOSED") + " n " + n + " used [" + used + "] staged ["
                + staged + "] decoded " + view;
    }

    static String fresh(int cap) {
        return shown(cap, true, 0, "", text(ZEROS), "0 at -1: " + text(ZEROS));
    }

    /** Reads one block and compares its place and all its levels. */
    static void dueNext(CabacResidual x, int place, int[] levels) {
        Due.is("decodeNext()", x.decodeNext(), place);
        Due.is("decodedPlace()", x.decodedPlace(), place);
        Due.is("levels of the block at " + place, decoded(x), text(levels));
    }

    /** Commits the blocks at the places, finishes, and reads them back twice. */
    static void commitAndRead(CabacResidual x, int[] places, int[][] blocks) {
        for (int i = 0; i < places.length; i++) {
            stage(x, blocks[i]);
            Due.is("commit(" + places[i] + ")", x.commit(places[i]), i);
        }
        Due.is("finish()", x.finish(), true);
        for (int pass = 0; pass < 2; pass++) {
            for (int i = 0; i < places.length; i++) {
                dueNext(x, places[i], blocks[i]);
            }
            Due.is("decodeNext() at the end", x.decodeNext(), CabacResidual.R_END);
            Due.is("rewind()", x.rewind(), true);
        }
    }
}
