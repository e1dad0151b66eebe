/** Promises 11 to 17, the getters: a test for each sentence that names a boundary case. */
public final class GettersEdgesTest {
    public static void main(String[] args) {
        promises11To13();
        promises14To17();
        Due.end("GettersEdgesTest");
    }

    private static void promises11To13() {
        Sentence.holds("11", "answers the view level at pos for pos in 0..15", GettersEdgesTest::getDecodedInRange);
        Sentence.holds("11", "0 for any pos outside 0..15 (too small)", () -> getDecodedAt(Blocks.BELOW_0));
        Sentence.holds("11", "0 for any pos outside 0..15 (too large)", () -> getDecodedAt(Blocks.ABOVE_15));
        Sentence.holds("11", "While no block has been decoded since the last finish or rewind [..] every view level is 0",
                GettersEdgesTest::levelsWhenNoneIsDecoded);
        Sentence.holds("11", "always while OPEN, every view level is 0", GettersEdgesTest::levelsWhileOpen);
        Sentence.holds("11", "It changes nothing.", GettersEdgesTest::getDecodedChangesNothing);
        Sentence.holds("12", "the place of the last block decoded since the last finish or rewind",
                GettersEdgesTest::placeOfTheLastDecoded);
        Sentence.holds("12", "or -1 if none", GettersEdgesTest::placeWhenNoneIsDecoded);
        Sentence.holds("12", "It is always -1 while OPEN.", GettersEdgesTest::placeWhileOpen);
        Sentence.holds("12", "It changes nothing.", () -> kept("decodedPlace()", CabacResidual::decodedPlace));
        Sentence.holds("13", "the number of blocks decoded since the last finish or rewind",
                GettersEdgesTest::countFromNoneToAll);
        Sentence.holds("13", "0 while OPEN", GettersEdgesTest::countWhileOpen);
        Sentence.holds("13", "never more than n", GettersEdgesTest::countNeverMoreThanN);
        Sentence.holds("13", "It changes nothing.", () -> kept("decodedCount()", CabacResidual::decodedCount));
    }

    private static void promises14To17() {
        Sentence.holds("14", "the number of blocks committed to the current stream (0..cap)",
                GettersEdgesTest::blockCountFromNoneToCap);
        Sentence.holds("14", "It changes nothing.", () -> kept("blockCount()", CabacResidual::blockCount));
        Sentence.holds("15", "answers true iff the mode is OPEN (OPEN)", () -> dueOpen(State.OPEN_ONES, true));
        Sentence.holds("15", "answers true iff the mode is OPEN (CLOSED)", () -> dueOpen(State.CLOSED_ONES, false));
        Sentence.holds("15", "It changes nothing.", () -> kept("isOpen()", CabacResidual::isOpen));
        Sentence.holds("16", "answers used[place] for place in 0..15", GettersEdgesTest::placeUsedInRange);
        Sentence.holds("16", "true iff a block was committed at that place in the current stream",
                GettersEdgesTest::onlyTheCurrentStreamsPlaces);
        Sentence.holds("16", "false for any place outside 0..15 (too small)", () -> placeUsedAt(Blocks.BELOW_0));
        Sentence.holds("16", "false for any place outside 0..15 (too large)", () -> placeUsedAt(Blocks.ABOVE_15));
        Sentence.holds("16", "It changes nothing.", GettersEdgesTest::placeUsedChangesNothing);
        Sentence.holds("17", "a value in 1..6", GettersEdgesTest::capacityIsInRange);
        Sentence.holds("17", "fixed at construction", GettersEdgesTest::capacityIsFixed);
        Sentence.holds("17", "It changes nothing.", () -> kept("capacity()", CabacResidual::capacity));
    }

    /** Six blocks with no zero level, so that a wrong index can't answer 0 by chance. */
    private static CabacResidual sixBlocks(int reads) {
        CabacResidual x = new CabacResidual(6);
        for (int i = 0; i < 6; i++) {
            Blocks.stage(x, Blocks.levels(i + 1));
            x.commit(15 - 3 * i);
        }
        x.finish();
        for (int i = 0; i < reads; i++) {
            x.decodeNext();
        }
        return x;
    }

    private static void getDecodedInRange() {
        for (int reads = 1; reads <= 6; reads++) {
            CabacResidual x = sixBlocks(reads);
            for (int pos = 0; pos < 16; pos++) {
                Due.is("getDecoded(" + pos + ") of block " + reads, x.getDecoded(pos), Blocks.levels(reads)[pos]);
            }
        }
    }

    private static void getDecodedAt(int[] positions) {
        for (int reads = 0; reads <= 6; reads++) {
            CabacResidual x = sixBlocks(reads);
            for (int pos : positions) {
                Due.is("getDecoded(" + pos + ") after " + reads, x.getDecoded(pos), 0);
            }
        }
        for (State state : State.values()) {
            CabacResidual x = state.make();
            for (int pos : positions) {
                Due.is("getDecoded(" + pos + ") " + state, x.getDecoded(pos), 0);
            }
        }
    }

    private static void levelsWhenNoneIsDecoded() {
        CabacResidual x = sixBlocks(0);
        Due.is("view after finish", Blocks.decoded(x), Blocks.text(Blocks.ZEROS));
        for (int reads = 0; reads <= 7; reads++) {
            CabacResidual rewound = sixBlocks(reads);
            rewound.rewind();
            Due.is("view after " + reads + " and rewind", Blocks.decoded(rewound), Blocks.text(Blocks.ZEROS));
        }
        CabacResidual empty = State.CLOSED_EMPTY.make();
        empty.decodeNext();
        Due.is("view of an empty stream", Blocks.decoded(empty), Blocks.text(Blocks.ZEROS));
    }

    private static void levelsWhileOpen() {
        for (State state : State.OPEN_ONES) {
            CabacResidual x = state.make();
            x.decodeNext();
            Due.is("view " + state, Blocks.decoded(x), Blocks.text(Blocks.ZEROS));
        }
        for (int reads = 0; reads <= 7; reads++) {
            CabacResidual x = sixBlocks(reads);
            x.reset();
            Due.is("view after " + reads + " and reset", Blocks.decoded(x), Blocks.text(Blocks.ZEROS));
            x.commit(2);
            Due.is("view after reset and commit", Blocks.decoded(x), Blocks.text(Blocks.ZEROS));
        }
    }

    private static void getDecodedChangesNothing() {
        for (State state : State.values()) {
            state.keptBy("getDecoded", x -> {
                for (int pos = -40; pos < 40; pos++) {
                    x.getDecoded(pos);
                }
                for (int pos : Blocks.OUTSIDE_16) {
                    x.getDecoded(pos);
                }
            });
        }
    }

    private static void placeOfTheLastDecoded() {
        for (int reads = 1; reads <= 8; reads++) {
            int block = Math.min(reads, 6) - 1;
            Due.is("decodedPlace() after " + reads, sixBlocks(reads).decodedPlace(), 15 - 3 * block);
        }
        CabacResidual x = sixBlocks(6);
        x.rewind();
        x.decodeNext();
        Due.is("decodedPlace() after rewind and one", x.decodedPlace(), 15);
    }

    private static void placeWhenNoneIsDecoded() {
        Due.is("decodedPlace() after finish", sixBlocks(0).decodedPlace(), -1);
        for (int reads = 0; reads <= 7; reads++) {
            CabacResidual x = sixBlocks(reads);
            x.rewind();
            Due.is("decodedPlace() after " + reads + " and rewind", x.decodedPlace(), -1);
        }
        CabacResidual empty = State.CLOSED_EMPTY.make();
        empty.decodeNext();
        Due.is("decodedPlace() of an empty stream", empty.decodedPlace(), -1);
    }

    private static void placeWhileOpen() {
        for (State state : State.OPEN_ONES) {
            CabacResidual x = state.make();
            x.decodeNext();
            Due.is("decodedPlace() " + state, x.decodedPlace(), -1);
        }
        for (int reads = 0; reads <= 7; reads++) {
            CabacResidual x = sixBlocks(reads);
            x.reset();
            Due.is("decodedPlace() after " + reads + " and reset", x.decodedPlace(), -1);
            x.commit(2);
            Due.is("decodedPlace() after reset and commit", x.decodedPlace(), -1);
        }
    }

    private static void countFromNoneToAll() {
        for (int reads = 0; reads <= 6; reads++) {
            CabacResidual x = sixBlocks(reads);
            Due.is("decodedCount() after " + reads, x.decodedCount(), reads);
            x.rewind();
            Due.is("decodedCount() after " + reads + " and rewind", x.decodedCount(), 0);
            x.decodeNext();
            Due.is("decodedCount() after rewind and one", x.decodedCount(), 1);
        }
    }

    private static void countWhileOpen() {
        for (State state : State.OPEN_ONES) {
            CabacResidual x = state.make();
            x.decodeNext();
            Due.is("decodedCount() " + state, x.decodedCount(), 0);
        }
        for (int reads = 0; reads <= 7; reads++) {
            CabacResidual x = sixBlocks(reads);
            x.reset();
            Due.is("decodedCount() after " + reads + " and reset", x.decodedCount(), 0);
        }
    }

    private static void countNeverMoreThanN() {
        for (int reads = 7; reads <= 20; reads++) {
            Due.is("decodedCount() after " + reads + " of 6", sixBlocks(reads).decodedCount(), 6);
        }
        CabacResidual empty = State.CLOSED_EMPTY.make();
        empty.decodeNext();
        Due.is("decodedCount() of an empty stream", empty.decodedCount(), 0);
    }

    private static void blockCountFromNoneToCap() {
        for (int cap = 1; cap <= 6; cap++) {
            CabacResidual x = new CabacResidual(cap);
            Due.is("blockCount() of an empty stream", x.blockCount(), 0);
            for (int place = 0; place < 16; place++) {
                x.commit(place);
                x.commit(place);
                x.commit(place + 16);
                Due.is("blockCount() after place " + place, x.blockCount(), Math.min(place + 1, cap));
            }
            x.finish();
            x.commit(15);
            x.decodeNext();
            x.rewind();
            Due.is("blockCount() while CLOSED", x.blockCount(), cap);
            x.reset();
            Due.is("blockCount() after reset", x.blockCount(), 0);
        }
    }

    private static void dueOpen(State[] states, boolean open) {
        for (State state : states) {
            CabacResidual x = state.make();
            Due.is("isOpen() " + state, x.isOpen(), open);
            // None of these turns the mode: they are allowed and keep it, or are refused.
            x.setLevel(0, 1);
            x.setPair(0, 1, 1);
            x.clearStaging();
            x.commit(16);
            x.commit(5);
            x.decodeNext();
            x.rewind();
            Due.is("isOpen() " + state + " after calls that keep the mode", x.isOpen(), open);
            x.finish();
            Due.is("isOpen() " + state + " after finish", x.isOpen(), false);
            x.reset();
            Due.is("isOpen() " + state + " after reset", x.isOpen(), true);
        }
    }

    private static void placeUsedInRange() {
        for (int used = 0; used < 16; used++) {
            CabacResidual x = new CabacResidual(2);
            x.commit(used);
            for (int place = 0; place < 16; place++) {
                Due.is("placeUsed(" + place + ") with " + used + " used", x.placeUsed(place), place == used);
            }
        }
    }

    private static void onlyTheCurrentStreamsPlaces() {
        CabacResidual x = new CabacResidual(2);
        x.commit(0);
        x.commit(15);
        Due.is("R_FULL, so not used", x.commit(7), CabacResidual.R_FULL);
        Due.is("used places of a full stream", Blocks.usedPlaces(x), "0 15 ");
        x.finish();
        Due.is("R_CLOSED, so not used", x.commit(8), CabacResidual.R_CLOSED);
        x.decodeNext();
        x.rewind();
        Due.is("used places while CLOSED", Blocks.usedPlaces(x), "0 15 ");
        x.reset();
        Due.is("used places of an empty stream", Blocks.usedPlaces(x), "");
        x.commit(8);
        Due.is("used places of the next stream", Blocks.usedPlaces(x), "8 ");
    }

    private static void placeUsedAt(int[] places) {
        CabacResidual everyPlaceTried = new CabacResidual(6);
        for (int place : places) {
            everyPlaceTried.commit(place);
        }
        int[] edges = {0, 15, 1, 14, 3, 5};
        for (int place : edges) {
            everyPlaceTried.commit(place);
        }
        for (int place : places) {
            Due.is("placeUsed(" + place + ")", everyPlaceTried.placeUsed(place), false);
        }
        for (State state : State.values()) {
            CabacResidual x = state.make();
            for (int place : places) {
                Due.is("placeUsed(" + place + ") " + state, x.placeUsed(place), false);
            }
        }
    }

    private static void placeUsedChangesNothing() {
        for (State state : State.values()) {
            state.keptBy("placeUsed", x -> {
                for (int place = -40; place < 40; place++) {
                    x.placeUsed(place);
                }
                for (int place : Blocks.OUTSIDE_16) {
                    x.placeUsed(place);
                }
            });
        }
    }

    private static void capacityIsInRange() {
        for (int maxBlocks = -300; maxBlocks <= 300; maxBlocks++) {
            int cap = new CabacResidual(maxBlocks).capacity();
            Due.is("capacity() with " + maxBlocks + " is in 1..6", cap >= 1 && cap <= 6, true);
        }
        Due.is("the least capacity", new CabacResidual(Integer.MIN_VALUE).capacity(), 1);
        Due.is("the greatest capacity", new CabacResidual(Integer.MAX_VALUE).capacity(), 6);
    }

    private static void capacityIsFixed() {
        for (int cap = 1; cap <= 6; cap++) {
            CabacResidual x = new CabacResidual(cap);
            for (int stream = 0; stream < 3; stream++) {
                for (int place = 0; place < 16; place++) {
                    x.commit(place);
                    Due.is("capacity() after commit(" + place + ")", x.capacity(), cap);
                }
                x.finish();
                Due.is("capacity() after finish", x.capacity(), cap);
                x.decodeNext();
                x.rewind();
                Due.is("capacity() after rewind", x.capacity(), cap);
                x.reset();
                Due.is("capacity() after reset", x.capacity(), cap);
            }
        }
    }

    private interface Getter {
        Object ask(CabacResidual x);
    }

    private static void kept(String name, Getter getter) {
        for (State state : State.values()) {
            state.keptBy(name, x -> getter.ask(x));
            state.keptBy(name + " asked twice", x -> {
                Object first = getter.ask(x);
                Due.is(name + " asked twice " + state, getter.ask(x).equals(first), true);
            });
        }
    }
}
