/** Promises 6 and 7, commit and finish: a test for each sentence that names a boundary case. */
public final class CommitEdgesTest {
    public static void main(String[] args) {
        promise6Refusals();
        promise6Successes();
        promise7();
        Due.end("CommitEdgesTest");
    }

    private static void promise6Refusals() {
        Sentence.holds("6", "mode CLOSED answers R_CLOSED", CommitEdgesTest::commitWhenClosed);
        Sentence.holds("6", "place outside 0..15 answers R_BAD_PLACE (too small)", () -> commitAt(Blocks.BELOW_0));
        Sentence.holds("6", "place outside 0..15 answers R_BAD_PLACE (too large)", () -> commitAt(Blocks.ABOVE_15));
        Sentence.holds("6", "used[place] answers R_PLACE_USED", CommitEdgesTest::commitAtUsedPlaces);
        Sentence.holds("6", "n == cap answers R_FULL", CommitEdgesTest::commitWhenFull);
        Sentence.holds("6", "considers its conditions in this order (CLOSED first)",
                CommitEdgesTest::closedComesFirst);
        Sentence.holds("6", "considers its conditions in this order (bad place before full)",
                CommitEdgesTest::badPlaceComesBeforeFull);
        Sentence.holds("6", "considers its conditions in this order (used before full)",
                CommitEdgesTest::usedComesBeforeFull);
        Sentence.holds("6", "A refused call changes nothing. (CLOSED)", CommitEdgesTest::refusedAsClosedKeepsAll);
        Sentence.holds("6", "A refused call changes nothing. (bad place)", CommitEdgesTest::refusedAsBadKeepsAll);
        Sentence.holds("6", "A refused call changes nothing. (used place)", CommitEdgesTest::refusedAsUsedKeepsAll);
        Sentence.holds("6", "A refused call changes nothing. (full)", CommitEdgesTest::refusedAsFullKeepsAll);
    }

    private static void promise6Successes() {
        Sentence.holds("6", "answers the new block's index n - 1 (so 0 for the first block of a stream, up to cap - 1)",
                CommitEdgesTest::indexFromFirstToLast);
        Sentence.holds("6", "appends (place, copy of the 16 staged levels) to the stream, sets used[place] = true",
                CommitEdgesTest::everyPlaceCanBeUsed);
        Sentence.holds("6", "Staging is unchanged.", CommitEdgesTest::commitKeepsStaging);
        Sentence.holds("6", "An all-zero block is a valid block.", CommitEdgesTest::allZeroBlocks);
        Sentence.holds("6", "The mode stays OPEN, d stays 0 and the view stays empty.",
                CommitEdgesTest::commitKeepsModeAndView);
        Sentence.holds("6", "there is always room for them", CommitEdgesTest::roomForTheLargestBlocks);
    }

    private static void promise7() {
        Sentence.holds("7", "in mode CLOSED answers false", CommitEdgesTest::finishWhenClosed);
        Sentence.holds("7", "in mode CLOSED [..] changes nothing", CommitEdgesTest::refusedFinishKeepsAll);
        Sentence.holds("7", "it sets mode = CLOSED, d = 0, view place = -1, view levels all 0, and answers true",
                CommitEdgesTest::finishWhenOpen);
        Sentence.holds("7", "n may be 0; finishing an empty stream succeeds.", CommitEdgesTest::finishOfAnEmptyStream);
        Sentence.holds("7", "The stream's blocks, n, used places, staging and cap are unchanged.",
                CommitEdgesTest::finishKeepsTheRest);
    }

    private static void commitWhenClosed() {
        for (State state : State.CLOSED_ONES) {
            CabacResidual x = state.make();
            for (int place = 0; place < 16; place++) {
                Due.is("commit(" + place + ") " + state, x.commit(place), CabacResidual.R_CLOSED);
            }
        }
    }

    private static void commitAt(int[] places) {
        for (State state : State.OPEN_ONES) {
            CabacResidual x = state.make();
            for (int place : places) {
                Due.is("commit(" + place + ") " + state, x.commit(place), CabacResidual.R_BAD_PLACE);
            }
        }
    }

    private static void commitAtUsedPlaces() {
        for (int place = 0; place < 16; place++) {
            CabacResidual x = new CabacResidual(6);
            x.commit(place);
            Due.is("commit(" + place + ") twice", x.commit(place), CabacResidual.R_PLACE_USED);
            Due.is("commit beside it", x.commit((place + 1) % 16), 1);
            Due.is("commit(" + place + ") thrice", x.commit(place), CabacResidual.R_PLACE_USED);
        }
    }

    private static void commitWhenFull() {
        for (int cap = 1; cap <= 6; cap++) {
            CabacResidual x = new CabacResidual(cap);
            for (int i = 0; i < cap; i++) {
                Due.is("commit " + i + " of " + cap, x.commit(i), i);
            }
            for (int place = cap; place < 16; place++) {
                Due.is("commit(" + place + ") over " + cap, x.commit(place), CabacResidual.R_FULL);
            }
        }
    }

    private static void closedComesFirst() {
        CabacResidual x = State.FULL.make();
        x.finish();
        Due.is("closed and full", x.commit(3), CabacResidual.R_CLOSED);
        Due.is("closed, full and used", x.commit(15), CabacResidual.R_CLOSED);
        CabacResidual room = State.CLOSED.make();
        Due.is("closed and used", room.commit(15), CabacResidual.R_CLOSED);
        for (int place : Blocks.OUTSIDE_16) {
            Due.is("closed, full and a bad place " + place, x.commit(place), CabacResidual.R_CLOSED);
            Due.is("closed and a bad place " + place, room.commit(place), CabacResidual.R_CLOSED);
        }
    }

    private static void badPlaceComesBeforeFull() {
        CabacResidual x = State.FULL.make();
        for (int place : Blocks.OUTSIDE_16) {
            Due.is("full and a bad place " + place, x.commit(place), CabacResidual.R_BAD_PLACE);
        }
    }

    private static void usedComesBeforeFull() {
        CabacResidual x = State.FULL.make();
        Due.is("full and used by the first block", x.commit(15), CabacResidual.R_PLACE_USED);
        Due.is("full and used by the last block", x.commit(0), CabacResidual.R_PLACE_USED);
    }

    private static void refusedAsClosedKeepsAll() {
        for (State state : State.CLOSED_ONES) {
            for (int place = -1; place <= 16; place++) {
                int at = place;
                state.keptBy("commit(" + at + ")", x -> x.commit(at));
            }
        }
    }

    private static void refusedAsBadKeepsAll() {
        for (State state : State.OPEN_ONES) {
            for (int place : Blocks.OUTSIDE_16) {
                state.keptBy("commit(" + place + ")", x -> x.commit(place));
            }
        }
    }

    private static void refusedAsUsedKeepsAll() {
        State[] withBothUsed = {State.PART_FULL, State.FULL};
        for (State state : withBothUsed) {
            state.keptBy("commit(15) at a used place", x -> x.commit(15));
            state.keptBy("commit(0) at a used place", x -> x.commit(0));
        }
        State.USED_AFTER_RESET.keptBy("commit(7) at a used place", x -> x.commit(7));
    }

    private static void refusedAsFullKeepsAll() {
        for (int place = 1; place < 15; place++) {
            int at = place;
            State.FULL.keptBy("commit(" + at + ") over the capacity", x -> x.commit(at));
        }
    }

    private static void indexFromFirstToLast() {
        for (int cap = 1; cap <= 6; cap++) {
            CabacResidual x = new CabacResidual(cap);
            for (int stream = 0; stream < 3; stream++) {
                for (int i = 0; i < cap; i++) {
                    Due.is("index of block " + i + " of " + cap, x.commit(15 - 3 * i), i);
                    Due.is("n after block " + i + " of " + cap, x.blockCount(), i + 1);
                    Due.is("a refused commit amid them", x.commit(15), CabacResidual.R_PLACE_USED);
                }
                x.reset();
            }
        }
    }

    private static void everyPlaceCanBeUsed() {
        for (int place = 0; place < 16; place++) {
            CabacResidual x = new CabacResidual(1);
            Blocks.stage(x, Blocks.levels(place + 1));
            Due.is("commit(" + place + ")", x.commit(place), 0);
            Due.is("used places", Blocks.usedPlaces(x), place + " ");
            x.clearStaging();
            x.finish();
            Blocks.dueNext(x, place, Blocks.levels(place + 1));
        }
    }

    private static void commitKeepsStaging() {
        CabacResidual x = State.STAGED.make();
        for (int i = 0; i < 3; i++) {
            x.commit(i);
            Due.is("staged after commit " + i, Blocks.staged(x), Blocks.text(Blocks.levels(9)));
        }
    }

    private static void allZeroBlocks() {
        for (int cap = 1; cap <= 6; cap++) {
            CabacResidual x = new CabacResidual(cap);
            for (int i = 0; i < cap; i++) {
                Due.is("commit of an all-zero block", x.commit(2 * i), i);
                Due.is("placeUsed of an all-zero block", x.placeUsed(2 * i), true);
            }
            Due.is("all-zero blocks fill the stream", x.commit(15), CabacResidual.R_FULL);
            Due.is("blockCount() of all-zero blocks", x.blockCount(), cap);
            x.finish();
            for (int i = 0; i < cap; i++) {
                Blocks.dueNext(x, 2 * i, Blocks.ZEROS);
            }
        }
    }

    private static void commitKeepsModeAndView() {
        for (int cap = 1; cap <= 6; cap++) {
            CabacResidual x = new CabacResidual(cap);
            Blocks.stage(x, Blocks.levels(cap));
            for (int i = 0; i < cap; i++) {
                x.commit(i);
                Due.is("isOpen() after commit " + i + " of " + cap, x.isOpen(), true);
                Due.is("decodedCount() after commit " + i + " of " + cap, x.decodedCount(), 0);
                Due.is("decodedPlace() after commit " + i + " of " + cap, x.decodedPlace(), -1);
                Due.is("view after commit " + i + " of " + cap, Blocks.decoded(x), Blocks.text(Blocks.ZEROS));
            }
        }
    }

    /** Full range, dense and of mixed signs: what a coded stream would need most bits for. */
    private static void roomForTheLargestBlocks() {
        CabacResidual x = new CabacResidual(6);
        for (int stream = 0; stream < 50; stream++) {
            int[][] blocks = new int[6][16];
            for (int i = 0; i < 96; i++) {
                int size = 32768 - (stream == 0 ? 0 : (i * 7 + stream * 13) % 40);
                blocks[i / 16][i % 16] = (i * i + stream) % 3 == 0 ? size : -size;
            }
            int[] places = {0, 1, 4, 5, 2, 15};
            x.reset();
            Blocks.commitAndRead(x, places, blocks);
        }
    }

    private static void finishWhenClosed() {
        for (State state : State.CLOSED_ONES) {
            CabacResidual x = state.make();
            Due.is("finish() " + state, x.finish(), false);
            Due.is("finish() again " + state, x.finish(), false);
        }
    }

    private static void refusedFinishKeepsAll() {
        for (State state : State.CLOSED_ONES) {
            state.keptBy("finish()", x -> x.finish());
        }
    }

    private static void finishWhenOpen() {
        for (State state : State.OPEN_ONES) {
            CabacResidual x = state.make();
            Due.is("finish() " + state, x.finish(), true);
            Due.is("isOpen() after finish " + state, x.isOpen(), false);
            Due.is("decodedCount() after finish " + state, x.decodedCount(), 0);
            Due.is("decodedPlace() after finish " + state, x.decodedPlace(), -1);
            Due.is("view after finish " + state, Blocks.decoded(x), Blocks.text(Blocks.ZEROS));
        }
    }

    private static void finishOfAnEmptyStream() {
        State[] emptyOnes = {State.FRESH, State.STAGED, State.AFTER_RESET};
        for (State state : emptyOnes) {
            CabacResidual x = state.make();
            Due.is("finish() of an empty stream " + state, x.finish(), true);
            Due.is("isOpen() of an empty stream " + state, x.isOpen(), false);
            Due.is("blockCount() of an empty stream " + state, x.blockCount(), 0);
            Due.is("decodeNext() of an empty stream " + state, x.decodeNext(), CabacResidual.R_END);
        }
    }

    private static void finishKeepsTheRest() {
        for (State state : State.OPEN_ONES) {
            CabacResidual x = state.make();
            CabacResidual twin = state.make();
            x.finish();
            Due.is("blockCount() after finish " + state, x.blockCount(), twin.blockCount());
            Due.is("used places after finish " + state, Blocks.usedPlaces(x), Blocks.usedPlaces(twin));
            Due.is("staged after finish " + state, Blocks.staged(x), Blocks.staged(twin));
            Due.is("capacity() after finish " + state, x.capacity(), twin.capacity());
        }
        CabacResidual full = State.FULL.make();
        full.finish();
        Blocks.dueNext(full, 15, Blocks.levels(1));
        Blocks.dueNext(full, 0, Blocks.levels(2));
        Due.is("decodeNext() at the end", full.decodeNext(), CabacResidual.R_END);
    }
}
