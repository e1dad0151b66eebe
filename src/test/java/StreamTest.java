/** Promises 6 to 10: commit, finish, decodeNext, rewind and reset. */
public final class StreamTest {
    private static final String NO_VIEW = "0 at -1: " + Blocks.text(Blocks.ZEROS);

    public static void main(String[] args) {
        promise6Commit();
        promise6EveryPlace();
        promise6Refusals();
        promise6OrderOfRefusals();
        promise7Finish();
        promise7EmptyStream();
        promise8DecodeNext();
        promise8Refusals();
        promise8ExtremeLevels();
        promise8EveryLevel();
        promise8AllZeroBlocks();
        promise8SparseBlocks();
        promise9Rewind();
        promise9Refusal();
        promise10ResetWhileOpen();
        promise10ResetWhileClosed();
        promise10LongUse();
        Due.end("StreamTest");
    }

    /** An OPEN object of the given capacity with block i of Blocks.levels(i + 1) at place 15 - i. */
    private static CabacResidual committed(int cap, int blocks) {
        CabacResidual x = new CabacResidual(cap);
        for (int i = 0; i < blocks; i++) {
            Blocks.stage(x, Blocks.levels(i + 1));
            Due.is("commit(" + (15 - i) + ")", x.commit(15 - i), i);
        }
        return x;
    }

    private static void promise6Commit() {
        for (int cap = 1; cap <= 6; cap++) {
            CabacResidual x = new CabacResidual(cap);
            int[] places = {6, 1, 15, 0, 9, 4};
            for (int i = 0; i < cap; i++) {
                Blocks.stage(x, Blocks.levels(i + 1));
                Due.is("commit(" + places[i] + ")", x.commit(places[i]), i);
                Due.is("blockCount()", x.blockCount(), i + 1);
                Due.is("placeUsed(" + places[i] + ")", x.placeUsed(places[i]), true);
                Due.is("staged after commit", Blocks.staged(x), Blocks.text(Blocks.levels(i + 1)));
                Due.is("isOpen() after commit", x.isOpen(), true);
                Due.is("decodedCount() after commit", x.decodedCount(), 0);
                Due.is("decodedPlace() after commit", x.decodedPlace(), -1);
                Due.is("view after commit", Blocks.decoded(x), Blocks.text(Blocks.ZEROS));
                Due.is("capacity() after commit", x.capacity(), cap);
            }
        }
    }

    private static void promise6EveryPlace() {
        for (int place = 0; place < 16; place++) {
            CabacResidual x = new CabacResidual(2);
            Blocks.stage(x, Blocks.levels(place + 1));
            Due.is("commit(" + place + ")", x.commit(place), 0);
            Due.is("used places", Blocks.usedPlaces(x), place + " ");
            x.finish();
            Blocks.dueNext(x, place, Blocks.levels(place + 1));
        }
    }

    private static void promise6Refusals() {
        CabacResidual x = committed(2, 2);
        Blocks.stage(x, Blocks.levels(5));
        String before = Blocks.all(x);
        for (int place : Blocks.OUTSIDE_16) {
            Due.is("commit(" + place + ")", x.commit(place), CabacResidual.R_BAD_PLACE);
        }
        Due.is("commit at a used place", x.commit(15), CabacResidual.R_PLACE_USED);
        Due.is("commit at a used place", x.commit(14), CabacResidual.R_PLACE_USED);
        Due.is("commit when full", x.commit(3), CabacResidual.R_FULL);
        Due.is("state after refused commits", Blocks.all(x), before);
        x.finish();
        before = Blocks.all(x);
        Due.is("commit when CLOSED", x.commit(3), CabacResidual.R_CLOSED);
        Due.is("state after commit when CLOSED", Blocks.all(x), before);
        Blocks.dueNext(x, 15, Blocks.levels(1));
        Blocks.dueNext(x, 14, Blocks.levels(2));
        Due.is("decodeNext() at the end", x.decodeNext(), CabacResidual.R_END);
    }

    private static void promise6OrderOfRefusals() {
        CabacResidual full = committed(1, 1);
        Due.is("bad place before full", full.commit(16), CabacResidual.R_BAD_PLACE);
        Due.is("bad place before full", full.commit(-1), CabacResidual.R_BAD_PLACE);
        Due.is("used before full", full.commit(15), CabacResidual.R_PLACE_USED);
        Due.is("full", full.commit(14), CabacResidual.R_FULL);
        full.finish();
        Due.is("closed before bad place", full.commit(16), CabacResidual.R_CLOSED);
        Due.is("closed before used", full.commit(15), CabacResidual.R_CLOSED);
        Due.is("closed before full", full.commit(14), CabacResidual.R_CLOSED);
        CabacResidual room = committed(2, 1);
        Due.is("used with room left", room.commit(15), CabacResidual.R_PLACE_USED);
        Due.is("a refused commit takes no room", room.commit(14), 1);
    }

    private static void promise7Finish() {
        CabacResidual x = committed(4, 2);
        Blocks.stage(x, Blocks.levels(7));
        Due.is("finish()", x.finish(), true);
        String closed = Blocks.shown(4, false, 2, "14 15 ", Blocks.text(Blocks.levels(7)), NO_VIEW);
        Due.is("state after finish", Blocks.all(x), closed);
        Due.is("finish() again", x.finish(), false);
        Due.is("state after finish again", Blocks.all(x), closed);
        Blocks.dueNext(x, 15, Blocks.levels(1));
        String before = Blocks.all(x);
        Due.is("finish() amid decoding", x.finish(), false);
        Due.is("state after finish amid decoding", Blocks.all(x), before);
        Blocks.dueNext(x, 14, Blocks.levels(2));
    }

    private static void promise7EmptyStream() {
        CabacResidual x = new CabacResidual(4);
        Due.is("finish() of an empty stream", x.finish(), true);
        String closed = Blocks.shown(4, false, 0, "", Blocks.text(Blocks.ZEROS), NO_VIEW);
        Due.is("state of an empty stream", Blocks.all(x), closed);
        Due.is("decodeNext() of an empty stream", x.decodeNext(), CabacResidual.R_END);
        Due.is("rewind() of an empty stream", x.rewind(), true);
        Due.is("decodeNext() of an empty stream", x.decodeNext(), CabacResidual.R_END);
        Due.is("state of an empty stream", Blocks.all(x), closed);
    }

    private static void promise8DecodeNext() {
        for (int n = 1; n <= 6; n++) {
            CabacResidual x = committed(6, n);
            x.clearStaging();
            x.finish();
            String used = Blocks.usedPlaces(x);
            for (int i = 0; i < n; i++) {
                Blocks.dueNext(x, 15 - i, Blocks.levels(i + 1));
                Due.is("state after decodeNext", Blocks.all(x), Blocks.shown(6, false, n, used,
                        Blocks.text(Blocks.ZEROS), (i + 1) + " at " + (15 - i) + ": " + Blocks.text(Blocks.levels(i + 1))));
            }
            String atEnd = Blocks.all(x);
            Due.is("decodeNext() at the end", x.decodeNext(), CabacResidual.R_END);
            Due.is("decodeNext() at the end again", x.decodeNext(), CabacResidual.R_END);
            Due.is("state at the end", Blocks.all(x), atEnd);
        }
    }

    private static void promise8Refusals() {
        CabacResidual x = committed(2, 1);
        String before = Blocks.all(x);
        Due.is("decodeNext() while OPEN", x.decodeNext(), CabacResidual.R_OPEN);
        Due.is("state after decodeNext while OPEN", Blocks.all(x), before);
        CabacResidual empty = new CabacResidual(2);
        Due.is("OPEN comes before the end", empty.decodeNext(), CabacResidual.R_OPEN);
        Due.is("state of the empty one", Blocks.all(empty), Blocks.fresh(2));
    }

    private static void promise8ExtremeLevels() {
        CabacResidual x = new CabacResidual(6);
        int[][] blocks = new int[6][16];
        for (int pos = 0; pos < 16; pos++) {
            blocks[0][pos] = 32768;
            blocks[1][pos] = -32768;
            blocks[2][pos] = pos % 2 == 0 ? 32768 : -32768;
            blocks[3][pos] = pos % 2 == 0 ? -32767 : 32767;
            blocks[4][pos] = pos % 3 - 1;
            blocks[5][pos] = pos % 2 == 0 ? 14 + pos % 4 : -14 - pos % 4;
        }
        int[] places = {0, 1, 4, 5, 15, 10};
        commitAndRead(x, places, blocks);
    }

    private static void promise8EveryLevel() {
        CabacResidual x = new CabacResidual(6);
        int level = CabacResidual.MIN_LEVEL;
        int[] places = {2, 7, 8, 13, 0, 15};
        while (level <= CabacResidual.MAX_LEVEL) {
            int[][] blocks = new int[6][16];
            for (int i = 0; i < 96 && level <= CabacResidual.MAX_LEVEL; i++) {
                blocks[i / 16][i % 16] = level;
                level++;
            }
            x.reset();
            commitAndRead(x, places, blocks);
        }
    }

    private static void promise8AllZeroBlocks() {
        CabacResidual x = new CabacResidual(6);
        int[][] blocks = {Blocks.ZEROS, Blocks.levels(1), Blocks.ZEROS, Blocks.ZEROS, Blocks.levels(2), Blocks.ZEROS};
        int[] places = {5, 6, 9, 10, 1, 4};
        commitAndRead(x, places, blocks);
    }

    private static void promise8SparseBlocks() {
        CabacResidual x = new CabacResidual(6);
        int[] places = {12, 0, 3, 15, 6, 9};
        for (int pos = 0; pos < 16; pos++) {
            int[][] blocks = new int[6][16];
            for (int i = 0; i < 6; i++) {
                blocks[i][pos] = i % 2 == 0 ? 1 + i : -1 - i;
                blocks[i][(pos + i) % 16] = -1;
            }
            x.reset();
            commitAndRead(x, places, blocks);
        }
    }

    private static void commitAndRead(CabacResidual x, int[] places, int[][] blocks) {
        for (int i = 0; i < places.length; i++) {
            Blocks.stage(x, blocks[i]);
            Due.is("commit(" + places[i] + ")", x.commit(places[i]), i);
        }
        Due.is("finish()", x.finish(), true);
        for (int pass = 0; pass < 2; pass++) {
            for (int i = 0; i < places.length; i++) {
                Blocks.dueNext(x, places[i], blocks[i]);
            }
            Due.is("decodeNext() at the end", x.decodeNext(), CabacResidual.R_END);
            Due.is("rewind()", x.rewind(), true);
        }
    }

    private static void promise9Rewind() {
        CabacResidual x = committed(5, 3);
        Blocks.stage(x, Blocks.levels(8));
        x.finish();
        String closed = Blocks.shown(5, false, 3, "13 14 15 ", Blocks.text(Blocks.levels(8)), NO_VIEW);
        for (int read = 0; read <= 4; read++) {
            for (int i = 0; i < read && i < 3; i++) {
                Blocks.dueNext(x, 15 - i, Blocks.levels(i + 1));
            }
            if (read == 4) {
                Due.is("decodeNext() at the end", x.decodeNext(), CabacResidual.R_END);
            }
            Due.is("rewind() after " + read, x.rewind(), true);
            Due.is("state after rewind", Blocks.all(x), closed);
        }
        Due.is("rewind() twice", x.rewind(), true);
        Due.is("state after rewind twice", Blocks.all(x), closed);
    }

    private static void promise9Refusal() {
        CabacResidual x = committed(5, 3);
        String before = Blocks.all(x);
        Due.is("rewind() while OPEN", x.rewind(), false);
        Due.is("state after rewind while OPEN", Blocks.all(x), before);
        Due.is("commit(0) after rewind while OPEN", x.commit(0), 3);
        x.finish();
        Blocks.dueNext(x, 15, Blocks.levels(1));
    }

    private static void promise10ResetWhileOpen() {
        CabacResidual x = committed(3, 3);
        x.reset();
        String again = Blocks.shown(3, true, 0, "", Blocks.text(Blocks.levels(3)), NO_VIEW);
        Due.is("state after reset while OPEN", Blocks.all(x), again);
        x.reset();
        Due.is("state after reset twice", Blocks.all(x), again);
        Due.is("commit(15) after reset", x.commit(15), 0);
        x.finish();
        Blocks.dueNext(x, 15, Blocks.levels(3));
        Due.is("earlier blocks are gone", x.decodeNext(), CabacResidual.R_END);
    }

    private static void promise10ResetWhileClosed() {
        CabacResidual x = committed(3, 3);
        x.finish();
        x.decodeNext();
        x.decodeNext();
        x.reset();
        String again = Blocks.shown(3, true, 0, "", Blocks.text(Blocks.levels(3)), NO_VIEW);
        Due.is("state after reset while CLOSED", Blocks.all(x), again);
        Due.is("decodeNext() after reset", x.decodeNext(), CabacResidual.R_OPEN);
        Due.is("rewind() after reset", x.rewind(), false);
        x.clearStaging();
        Due.is("commit(14) after reset", x.commit(14), 0);
        Due.is("finish() after reset", x.finish(), true);
        Blocks.dueNext(x, 14, Blocks.ZEROS);
        Due.is("earlier blocks are gone", x.decodeNext(), CabacResidual.R_END);
    }

    private static void promise10LongUse() {
        CabacResidual x = new CabacResidual(6);
        for (int round = 0; round < 3000; round++) {
            x.reset();
            int[] places = new int[6];
            int[][] blocks = new int[6][];
            for (int i = 0; i < 6; i++) {
                places[i] = (round + 5 * i) % 16;
                blocks[i] = Blocks.levels((round + i) % 30);
            }
            commitAndRead(x, places, blocks);
        }
    }
}
