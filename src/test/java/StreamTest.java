/** Promises 6 to 10: commit, finish, decodeNext, rewind and reset in ordinary use. */
public final class StreamTest {
    private static final String NO_VIEW = "0 at -1: " + Blocks.text(Blocks.ZEROS);

    public static void main(String[] args) {
        promise6Commit();
        promise7Finish();
        promise8DecodeNext();
        promise9Rewind();
        promise10ResetWhileOpen();
        promise10ResetWhileClosed();
        promise10LongUse();
        Due.end("StreamTest");
    }

    /** An OPEN object of the given capacity with block i of Blocks.levels(i + 1) at place 15 - i. */
    private static CabacResidual committed(int cap, int blocks) {
        CabacResidual x = new CabacResidual(cap);
        for (int i = 0; i < blocks; i++) {
            Blocks.stage(x, Blocks.levels(i + 1));
            Due.is("commit(" + (15 - i) + ")", x.commit(15 - i), i);
        }
        return x;
    }

    private static void promise6Commit() {
        for (int cap = 1; cap <= 6; cap++) {
            CabacResidual x = new CabacResidual(cap);
            int[] places = {6, 1, 15, 0, 9, 4};
            for (int i = 0; i < cap; i++) {
                Blocks.stage(x, Blocks.levels(i + 1));
                Due.is("commit(" + places[i] + ")", x.commit(places[i]), i);
                Due.is("blockCount()", x.blockCount(), i + 1);
                Due.is("placeUsed(" + places[i] + ")", x.placeUsed(places[i]), true);
                Due.is("staged after commit", Blocks.staged(x), Blocks.text(Blocks.levels(i + 1)));
                Due.is("isOpen() after commit", x.isOpen(), true);
                Due.is("decodedCount() after commit", x.decodedCount(), 0);
                Due.is("decodedPlace() after commit", x.decodedPlace(), -1);
                Due.is("view after commit", Blocks.decoded(x), Blocks.text(Blocks.ZEROS));
                Due.is("capacity() after commit", x.capacity(), cap);
            }
        }
    }

    private static void promise7Finish() {
        CabacResidual x = committed(4, 2);
        Blocks.stage(x, Blocks.levels(7));
        Due.is("finish()", x.finish(), true);
        String closed = Blocks.shown(4, false, 2, "14 15 ", Blocks.text(Blocks.levels(7)), NO_VIEW);
        Due.is("state after finish", Blocks.all(x), closed);
        Due.is("finish() again", x.finish(), false);
        Due.is("state after finish again", Blocks.all(x), closed);
        Blocks.dueNext(x, 15, Blocks.levels(1));
        String before = Blocks.all(x);
        Due.is("finish() amid decoding", x.finish(), false);
        Due.is("state after finish amid decoding", Blocks.all(x), before);
        Blocks.dueNext(x, 14, Blocks.levels(2));
    }

    private static void promise8DecodeNext() {
        for (int n = 1; n <= 6; n++) {
            CabacResidual x = committed(6, n);
            x.clearStaging();
            x.finish();
            String used = Blocks.usedPlaces(x);
            for (int i = 0; i < n; i++) {
                Blocks.dueNext(x, 15 - i, Blocks.levels(i + 1));
                Due.is("state after decodeNext", Blocks.all(x), Blocks.shown(6, false, n, used,
                        Blocks.text(Blocks.ZEROS), (i + 1) + " at " + (15 - i) + ": " + Blocks.text(Blocks.levels(i + 1))));
            }
            String atEnd = Blocks.all(x);
            Due.is("decodeNext() at the end", x.decodeNext(), CabacResidual.R_END);
            Due.is("decodeNext() at the end again", x.decodeNext(), CabacResidual.R_END);
            Due.is("state at the end", Blocks.all(x), atEnd);
        }
    }

    private static void promise9Rewind() {
        CabacResidual x = committed(5, 3);
        Blocks.stage(x, Blocks.levels(8));
        x.finish();
        String closed = Blocks.shown(5, false, 3, "13 14 15 ", Blocks.text(Blocks.levels(8)), NO_VIEW);
        for (int read = 0; read <= 4; read++) {
            for (int i = 0; i < read && i < 3; i++) {
                Blocks.dueNext(x, 15 - i, Blocks.levels(i + 1));
            }
            if (read == 4) {
                Due.is("decodeNext() at the end", x.decodeNext(), CabacResidual.R_END);
            }
            Due.is("rewind() after " + read, x.rewind(), true);
            Due.is("state after rewind", Blocks.all(x), closed);
        }
        Due.is("rewind() twice", x.rewind(), true);
        Due.is("state after rewind twice", Blocks.all(x), closed);
    }

    private static void promise10ResetWhileOpen() {
        CabacResidual x = committed(3, 3);
        x.reset();
        String again = Blocks.shown(3, true, 0, "", Blocks.text(Blocks.levels(3)), NO_VIEW);
        Due.is("state after reset while OPEN", Blocks.all(x), again);
        x.reset();
        Due.is("state after reset twice", Blocks.all(x), again);
        Due.is("commit(15) after reset", x.commit(15), 0);
        x.finish();
        Blocks.dueNext(x, 15, Blocks.levels(3));
        Due.is("earlier blocks are gone", x.decodeNext(), CabacResidual.R_END);
    }

    private static void promise10ResetWhileClosed() {
        CabacResidual x = committed(3, 3);
        x.finish();
        x.decodeNext();
        x.decodeNext();
        x.reset();
        String again = Blocks.shown(3, true, 0, "", Blocks.text(Blocks.levels(3)), NO_VIEW);
        Due.is("state after reset while CLOSED", Blocks.all(x), again);
        Due.is("decodeNext() after reset", x.decodeNext(), CabacResidual.R_OPEN);
        Due.is("rewind() after reset", x.rewind(), false);
        x.clearStaging();
        Due.is("commit(14) after reset", x.commit(14), 0);
        Due.is("finish() after reset", x.finish(), true);
        Blocks.dueNext(x, 14, Blocks.ZEROS);
        Due.is("earlier blocks are gone", x.decodeNext(), CabacResidual.R_END);
    }

    private static void promise10LongUse() {
        CabacResidual x = new CabacResidual(6);
        for (int round = 0; round < 3000; round++) {
            x.reset();
            int[] places = new int[6];
            int[][] blocks = new int[6][];
            for (int i = 0; i < 6; i++) {
                places[i] = (round + 5 * i) % 16;
                blocks[i] = Blocks.levels((round + i) % 30);
            }
            Blocks.commitAndRead(x, places, blocks);
        }
    }
}
