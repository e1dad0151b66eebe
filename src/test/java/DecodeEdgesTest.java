/** Promises 8 to 10, decodeNext, rewind and reset: a test for each sentence that names a boundary case. */
public final class DecodeEdgesTest {
    // More than a byte or a short counts, so that a counter that wraps around would show.
    private static final int MANY = 70000;

    public static void main(String[] args) {
        promise8Calls();
        promise8RoundTrip();
        promise9();
        promise10();
        Due.end("DecodeEdgesTest");
    }

    private static void promise8Calls() {
        Sentence.holds("8", "mode OPEN answers R_OPEN", DecodeEdgesTest::decodeWhenOpen);
        Sentence.holds("8", "d == n answers R_END", DecodeEdgesTest::decodeAtTheEnd);
        Sentence.holds("8", "considers its conditions in this order", DecodeEdgesTest::openComesBeforeTheEnd);
        Sentence.holds("8", "A refused call changes nothing (OPEN)", DecodeEdgesTest::refusedAsOpenKeepsAll);
        Sentence.holds("8", "A refused call changes nothing (at the end)", DecodeEdgesTest::refusedAtTheEndKeepsAll);
        Sentence.holds("8", "the view keeps its content", DecodeEdgesTest::theViewStaysAtTheEnd);
        Sentence.holds("8", "d = d + 1, and the answer is the place (0..15)", DecodeEdgesTest::everyPlaceIsAnswered);
        Sentence.holds("8", "Staging, stream, n, used places, mode and cap are unchanged.",
                DecodeEdgesTest::decodeKeepsTheRest);
    }

    private static void promise8RoundTrip() {
        Sentence.holds("8", "p equals the place of the k-th successful commit of the current stream",
                DecodeEdgesTest::refusedCommitsDoNotCount);
        Sentence.holds("8", "getDecoded(pos) equals the level staged at pos at the moment of that commit",
                DecodeEdgesTest::oneLevelAtEachPosition);
        Sentence.holds("8", "This holds for every level in the full range", DecodeEdgesTest::everyLevel);
        Sentence.holds("8", "including -32768 and 32768", DecodeEdgesTest::extremeLevels);
        Sentence.holds("8", "and for all-zero blocks", DecodeEdgesTest::allZeroBlocks);
        Sentence.holds("8", "decodeNext answers R_END exactly when decodedCount() == blockCount()",
                DecodeEdgesTest::endExactlyWhenAllAreDecoded);
    }

    private static void promise9() {
        Sentence.holds("9", "in mode OPEN answers false", DecodeEdgesTest::rewindWhenOpen);
        Sentence.holds("9", "in mode OPEN [..] changes nothing", DecodeEdgesTest::refusedRewindKeepsAll);
        Sentence.holds("9", "it sets d = 0, view place = -1, view levels all 0, and answers true",
                DecodeEdgesTest::rewindWhenClosed);
        Sentence.holds("9", "decoding starts again from the first block, and the blocks read again are the same",
                DecodeEdgesTest::rewindAfterEveryNumberOfReads);
        Sentence.holds("9", "Mode stays CLOSED; stream, n, used places, staging and cap are unchanged.",
                DecodeEdgesTest::rewindKeepsTheRest);
        Sentence.holds("9", "the blocks read again are the same as before (many times)", DecodeEdgesTest::manyRewinds);
    }

    private static void promise10() {
        Sentence.holds("10", "starts a new empty stream in either mode (OPEN)", () -> resetIn(State.OPEN_ONES));
        Sentence.holds("10", "starts a new empty stream in either mode (CLOSED)", () -> resetIn(State.CLOSED_ONES));
        Sentence.holds("10", "mode = OPEN, n = 0, no place used", DecodeEdgesTest::fullStreamIsEmptyAfterReset);
        Sentence.holds("10", "d = 0, view place = -1, view levels all 0", DecodeEdgesTest::viewIsEmptyAfterReset);
        Sentence.holds("10", "earlier blocks play no part in the new stream", DecodeEdgesTest::earlierBlocksAreGone);
        Sentence.holds("10", "Staging and cap are unchanged.", DecodeEdgesTest::resetKeepsStagingAndCap);
        Sentence.holds("10", "starts a new empty stream (many times)", DecodeEdgesTest::manyResets);
    }

    private static void decodeWhenOpen() {
        for (State state : State.OPEN_ONES) {
            CabacResidual x = state.make();
            Due.is("decodeNext() " + state, x.decodeNext(), CabacResidual.R_OPEN);
            Due.is("decodeNext() again " + state, x.decodeNext(), CabacResidual.R_OPEN);
        }
    }

    private static void decodeAtTheEnd() {
        State[] ended = {State.CLOSED_EMPTY, State.AT_END, State.PAST_END};
        for (State state : ended) {
            CabacResidual x = state.make();
            for (int i = 0; i < MANY; i++) {
                Due.is("decodeNext() " + state, x.decodeNext(), CabacResidual.R_END);
            }
        }
    }

    private static void openComesBeforeTheEnd() {
        State[] openAndEmpty = {State.FRESH, State.STAGED, State.AFTER_RESET};
        for (State state : openAndEmpty) {
            Due.is("decodeNext() with d == n " + state, state.make().decodeNext(), CabacResidual.R_OPEN);
        }
    }

    private static void refusedAsOpenKeepsAll() {
        for (State state : State.OPEN_ONES) {
            state.keptBy("decodeNext()", x -> x.decodeNext());
        }
    }

    private static void refusedAtTheEndKeepsAll() {
        State[] ended = {State.CLOSED_EMPTY, State.AT_END, State.PAST_END};
        for (State state : ended) {
            state.keptBy("decodeNext()", x -> x.decodeNext());
        }
    }

    private static void theViewStaysAtTheEnd() {
        CabacResidual x = State.AT_END.make();
        for (int i = 0; i < 3; i++) {
            x.decodeNext();
            Due.is("decodedPlace() past the end", x.decodedPlace(), 0);
            Due.is("view past the end", Blocks.decoded(x), Blocks.text(Blocks.levels(2)));
        }
    }

    private static void everyPlaceIsAnswered() {
        for (int first = 0; first < 16; first++) {
            int last = (first + 5) % 16;
            CabacResidual x = new CabacResidual(2);
            x.commit(first);
            x.commit(last);
            x.finish();
            Due.is("decodeNext() of the first", x.decodeNext(), first);
            Due.is("decodedCount() after the first", x.decodedCount(), 1);
            Due.is("decodeNext() of the last", x.decodeNext(), last);
            Due.is("decodedCount() after the last", x.decodedCount(), 2);
        }
    }

    private static void decodeKeepsTheRest() {
        for (State state : State.CLOSED_ONES) {
            state.keptBy("decodeNext() and reading up to here again", x -> {
                int reads = x.decodedCount();
                x.decodeNext();
                x.rewind();
                for (int i = 0; i < reads; i++) {
                    x.decodeNext();
                }
            });
        }
    }

    private static void refusedCommitsDoNotCount() {
        CabacResidual x = new CabacResidual(2);
        Blocks.stage(x, Blocks.levels(1));
        x.commit(16);
        x.commit(9);
        Blocks.stage(x, Blocks.levels(2));
        x.commit(9);
        x.commit(-1);
        Blocks.stage(x, Blocks.levels(3));
        x.commit(4);
        Blocks.stage(x, Blocks.levels(4));
        x.commit(10);
        x.finish();
        x.commit(11);
        Blocks.dueNext(x, 9, Blocks.levels(1));
        Blocks.dueNext(x, 4, Blocks.levels(3));
        Due.is("decodeNext() at the end", x.decodeNext(), CabacResidual.R_END);
    }

    private static void oneLevelAtEachPosition() {
        CabacResidual x = new CabacResidual(6);
        int[] places = {12, 0, 3, 15, 6, 9};
        for (int pos = 0; pos < 16; pos++) {
            int[][] blocks = new int[6][16];
            for (int i = 0; i < 6; i++) {
                blocks[i][pos] = i % 2 == 0 ? 1 + i : -1 - i;
                blocks[i][(pos + i) % 16] = -1;
            }
            x.reset();
            Blocks.commitAndRead(x, places, blocks);
        }
    }

    private static void everyLevel() {
        CabacResidual x = new CabacResidual(6);
        int level = CabacResidual.MIN_LEVEL;
        int[] places = {2, 7, 8, 13, 0, 15};
        while (level <= CabacResidual.MAX_LEVEL) {
            int[][] blocks = new int[6][16];
            for (int i = 0; i < 96 && level <= CabacResidual.MAX_LEVEL; i++) {
                blocks[i / 16][i % 16] = level;
                level++;
            }
            x.reset();
            Blocks.commitAndRead(x, places, blocks);
        }
    }

    private static void extremeLevels() {
        int[][] blocks = new int[6][16];
        for (int pos = 0; pos < 16; pos++) {
            blocks[0][pos] = 32768;
            blocks[1][pos] = -32768;
            blocks[2][pos] = pos % 2 == 0 ? 32768 : -32768;
            blocks[3][pos] = pos % 2 == 0 ? -32767 : 32767;
        }
        blocks[4][0] = 32768;
        blocks[5][15] = -32768;
        int[] places = {0, 1, 4, 5, 15, 10};
        Blocks.commitAndRead(new CabacResidual(6), places, blocks);
    }

    private static void allZeroBlocks() {
        int[][] mixed = {Blocks.ZEROS, Blocks.levels(1), Blocks.ZEROS, Blocks.ZEROS, Blocks.levels(2), Blocks.ZEROS};
        int[] places = {5, 6, 9, 10, 1, 4};
        Blocks.commitAndRead(new CabacResidual(6), places, mixed);
        int[][] zeros = {Blocks.ZEROS, Blocks.ZEROS, Blocks.ZEROS, Blocks.ZEROS, Blocks.ZEROS, Blocks.ZEROS};
        Blocks.commitAndRead(new CabacResidual(6), places, zeros);
    }

    private static void endExactlyWhenAllAreDecoded() {
        for (int n = 0; n <= 6; n++) {
            CabacResidual x = new CabacResidual(6);
            for (int i = 0; i < n; i++) {
                x.commit(i);
            }
            x.finish();
            for (int read = 0; read < 2 * n + 2; read++) {
                boolean allDecoded = x.decodedCount() == x.blockCount();
                Due.is("R_END after " + read + " of " + n, x.decodeNext() == CabacResidual.R_END, allDecoded);
                Due.is("all decoded after " + (read + 1) + " of " + n, x.decodedCount() == x.blockCount(), read + 1 >= n);
            }
        }
    }

    private static void rewindWhenOpen() {
        for (State state : State.OPEN_ONES) {
            Due.is("rewind() " + state, state.make().rewind(), false);
        }
    }

    private static void refusedRewindKeepsAll() {
        for (State state : State.OPEN_ONES) {
            state.keptBy("rewind()", x -> x.rewind());
        }
    }

    private static void rewindWhenClosed() {
        for (State state : State.CLOSED_ONES) {
            CabacResidual x = state.make();
            for (int i = 0; i < 2; i++) {
                Due.is("rewind() " + state, x.rewind(), true);
                Due.is("decodedCount() after rewind " + state, x.decodedCount(), 0);
                Due.is("decodedPlace() after rewind " + state, x.decodedPlace(), -1);
                Due.is("view after rewind " + state, Blocks.decoded(x), Blocks.text(Blocks.ZEROS));
            }
        }
    }

    private static void rewindAfterEveryNumberOfReads() {
        CabacResidual x = new CabacResidual(6);
        for (int i = 0; i < 6; i++) {
            Blocks.stage(x, Blocks.levels(i + 1));
            x.commit(15 - i);
        }
        x.finish();
        for (int reads = 0; reads <= 8; reads++) {
            for (int i = 0; i < reads && i < 6; i++) {
                Blocks.dueNext(x, 15 - i, Blocks.levels(i + 1));
            }
            for (int i = 6; i < reads; i++) {
                Due.is("decodeNext() past the end", x.decodeNext(), CabacResidual.R_END);
            }
            Due.is("rewind() after " + reads, x.rewind(), true);
        }
    }

    private static void rewindKeepsTheRest() {
        for (State state : State.CLOSED_ONES) {
            state.keptBy("rewind() and reading up to here again", x -> {
                int reads = x.decodedCount();
                x.rewind();
                Due.is("isOpen() after rewind " + state, x.isOpen(), false);
                for (int i = 0; i < reads; i++) {
                    x.decodeNext();
                }
            });
        }
    }

    private static void manyRewinds() {
        CabacResidual x = State.CLOSED.make();
        for (int i = 0; i < MANY; i++) {
            Due.is("rewind() " + i, x.rewind(), true);
            Due.is("decodeNext() after rewind " + i, x.decodeNext(), 15);
            Due.is("decodedCount() after rewind " + i, x.decodedCount(), 1);
        }
        Due.is("the first block", Blocks.decoded(x), Blocks.text(Blocks.levels(1)));
        Blocks.dueNext(x, 0, Blocks.levels(2));
    }

    private static void resetIn(State[] states) {
        for (State state : states) {
            CabacResidual x = state.make();
            x.reset();
            Due.is("blockCount() after reset " + state, x.blockCount(), 0);
            Due.is("isOpen() after reset " + state, x.isOpen(), true);
            Due.is("decodeNext() after reset " + state, x.decodeNext(), CabacResidual.R_OPEN);
            Due.is("finish() after reset " + state, x.finish(), true);
            Due.is("decodeNext() of the new empty stream " + state, x.decodeNext(), CabacResidual.R_END);
        }
    }

    private static void fullStreamIsEmptyAfterReset() {
        for (int cap = 1; cap <= 6; cap++) {
            CabacResidual x = new CabacResidual(cap);
            // Each stream uses places that the one before it left free, and then the other way round.
            for (int stream = 0; stream < 6; stream++) {
                for (int i = 0; i < cap; i++) {
                    int place = (stream * 5 + i) % 16;
                    Due.is("placeUsed(" + place + ") before its commit", x.placeUsed(place), false);
                    Due.is("commit(" + place + ") in stream " + stream, x.commit(place), i);
                }
                Due.is("one too many", x.commit((stream * 5 + cap) % 16), CabacResidual.R_FULL);
                x.reset();
                Due.is("isOpen() after reset", x.isOpen(), true);
                Due.is("blockCount() after reset", x.blockCount(), 0);
                Due.is("used places after reset", Blocks.usedPlaces(x), "");
            }
        }
        for (int place = 0; place < 16; place++) {
            CabacResidual x = new CabacResidual(1);
            x.commit(place);
            x.reset();
            Due.is("commit(" + place + ") again after reset", x.commit(place), 0);
        }
    }

    private static void viewIsEmptyAfterReset() {
        for (State state : State.values()) {
            CabacResidual x = state.make();
            x.reset();
            Due.is("decodedCount() after reset " + state, x.decodedCount(), 0);
            Due.is("decodedPlace() after reset " + state, x.decodedPlace(), -1);
            Due.is("view after reset " + state, Blocks.decoded(x), Blocks.text(Blocks.ZEROS));
        }
    }

    private static void earlierBlocksAreGone() {
        for (State state : State.values()) {
            CabacResidual x = state.make();
            x.reset();
            x.clearStaging();
            Due.is("commit(14) after reset " + state, x.commit(14), 0);
            x.setLevel(15, 1);
            Due.is("commit(15) after reset " + state, x.commit(15), 1);
            x.finish();
            int[] sparse = new int[16];
            sparse[15] = 1;
            Blocks.dueNext(x, 14, Blocks.ZEROS);
            Blocks.dueNext(x, 15, sparse);
            Due.is("decodeNext() at the end " + state, x.decodeNext(), CabacResidual.R_END);
        }
    }

    private static void resetKeepsStagingAndCap() {
        for (State state : State.values()) {
            CabacResidual x = state.make();
            CabacResidual twin = state.make();
            x.reset();
            Due.is("staged after reset " + state, Blocks.staged(x), Blocks.staged(twin));
            Due.is("capacity() after reset " + state, x.capacity(), twin.capacity());
        }
    }

    private static void manyResets() {
        CabacResidual x = new CabacResidual(2);
        x.setLevel(3, -7);
        for (int i = 0; i < MANY; i++) {
            x.reset();
            Due.is("commit after reset " + i, x.commit(i % 16), 0);
            Due.is("finish() after reset " + i, x.finish(), true);
            Due.is("decodeNext() after reset " + i, x.decodeNext(), i % 16);
            Due.is("getDecoded(3) after reset " + i, x.getDecoded(3), -7);
        }
    }
}
