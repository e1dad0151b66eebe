/** Promises 1 to 5: a test for each sentence that names a boundary case. */
public final class StagingEdgesTest {
    public static void main(String[] args) {
        promise1();
        promise2();
        promise3();
        promise4And5();
        Due.end("StagingEdgesTest");
    }

    private static void promise1() {
        Sentence.holds("1", "accepts every int", StagingEdgesTest::everyIntMakesAnObject);
        Sentence.holds("1", "any value below 1 (including Integer.MIN_VALUE) gives cap 1",
                StagingEdgesTest::tooSmallACapacity);
        Sentence.holds("1", "any value above 6 (including Integer.MAX_VALUE) gives cap 6",
                StagingEdgesTest::tooLargeACapacity);
        Sentence.holds("1", "values 1..6 are kept as they are", StagingEdgesTest::capacitiesInRange);
        Sentence.holds("1", "all 16 staged levels 0", StagingEdgesTest::freshStaging);
        Sentence.holds("1", "mode OPEN", StagingEdgesTest::freshMode);
        Sentence.holds("1", "an empty stream (n = 0, no place used)", StagingEdgesTest::freshStream);
        Sentence.holds("1", "d = 0; view place -1; view levels all 0", StagingEdgesTest::freshView);
        Sentence.holds("1", "A new stream begins", StagingEdgesTest::freshBesideAnOlderObject);
    }

    private static void promise2() {
        Sentence.holds("2", "pos outside 0..15 answers false (too small)", () -> setLevelAt(Blocks.BELOW_0));
        Sentence.holds("2", "pos outside 0..15 answers false (too large)", () -> setLevelAt(Blocks.ABOVE_15));
        Sentence.holds("2", "level outside MIN_LEVEL..MAX_LEVEL answers false (too small)",
                () -> setLevelTo(Blocks.BELOW_LEVELS));
        Sentence.holds("2", "level outside MIN_LEVEL..MAX_LEVEL answers false (too large)",
                () -> setLevelTo(Blocks.ABOVE_LEVELS));
        Sentence.holds("2", "considers its conditions in this order", StagingEdgesTest::setLevelWithBothWrong);
        Sentence.holds("2", "A refused call changes nothing.", StagingEdgesTest::refusedSetLevelChangesNothing);
        Sentence.holds("2", "Otherwise staged[pos] = level and the answer is true.",
                StagingEdgesTest::setLevelAtTheEdges);
        Sentence.holds("2", "It is allowed in both modes.", StagingEdgesTest::setLevelInEveryState);
        Sentence.holds("2", "It changes only staged[pos]", StagingEdgesTest::setLevelTouchesNothingElse);
        Sentence.holds("2", "Blocks already committed keep the levels copied at their commit.",
                StagingEdgesTest::committedBlocksOutliveSetLevel);
    }

    private static void promise3() {
        Sentence.holds("3", "pair outside 0..7 answers false (too small)", () -> setPairAt(Blocks.BELOW_0));
        Sentence.holds("3", "pair outside 0..7 answers false (too large)", () -> setPairAt(Blocks.ABOVE_7));
        Sentence.holds("3", "a outside the level range answers false (too small)",
                () -> setPairWithA(Blocks.BELOW_LEVELS));
        Sentence.holds("3", "a outside the level range answers false (too large)",
                () -> setPairWithA(Blocks.ABOVE_LEVELS));
        Sentence.holds("3", "b outside the level range answers false (too small)",
                () -> setPairWithB(Blocks.BELOW_LEVELS));
        Sentence.holds("3", "b outside the level range answers false (too large)",
                () -> setPairWithB(Blocks.ABOVE_LEVELS));
        Sentence.holds("3", "considers its conditions in this order", StagingEdgesTest::setPairWithMoreThanOneWrong);
        Sentence.holds("3", "A refused call changes nothing", StagingEdgesTest::refusedSetPairChangesNothing);
        Sentence.holds("3", "no part of the pair is written when only b is out of range",
                StagingEdgesTest::onlyBOutOfRange);
        Sentence.holds("3", "Otherwise staged[2*pair] = a and staged[2*pair+1] = b, and the answer is true.",
                StagingEdgesTest::setPairAtTheEdges);
        Sentence.holds("3", "It is allowed in both modes.", StagingEdgesTest::setPairInEveryState);
        Sentence.holds("3", "Other staged levels, mode, stream, used places, n, d, view and cap are unchanged.",
                StagingEdgesTest::setPairTouchesNothingElse);
    }

    private static void promise4And5() {
        Sentence.holds("4", "sets all 16 staged levels to 0", StagingEdgesTest::clearStagingReachesBothEnds);
        Sentence.holds("4", "It is allowed in both modes.", StagingEdgesTest::clearStagingInEveryState);
        Sentence.holds("4", "Nothing else changes", StagingEdgesTest::clearStagingTouchesNothingElse);
        Sentence.holds("4", "committed blocks keep their levels", StagingEdgesTest::committedBlocksOutliveClearStaging);
        Sentence.holds("5", "answers staged[pos] for pos in 0..15", StagingEdgesTest::getStagedInRange);
        Sentence.holds("5", "0 for any pos outside 0..15 (negative)", () -> getStagedAt(Blocks.BELOW_0));
        Sentence.holds("5", "0 for any pos outside 0..15 (greater than 15)", () -> getStagedAt(Blocks.ABOVE_15));
        Sentence.holds("5", "It changes nothing.", StagingEdgesTest::getStagedChangesNothing);
    }

    private static void everyIntMakesAnObject() {
        int[] bits = {0, 1, 2, 3, 4, 7, 8, 15, 16, 23, 30, 31};
        for (int bit : bits) {
            for (int near = -8; near <= 8; near++) {
                int maxBlocks = (1 << bit) + near;
                CabacResidual x = new CabacResidual(maxBlocks);
                Due.is("isOpen() of a new one with " + maxBlocks, x.isOpen(), true);
                Due.is("commit(0) to a new one with " + maxBlocks, x.commit(0), 0);
            }
        }
    }

    private static void tooSmallACapacity() {
        int[] tooSmall = {Integer.MIN_VALUE, Integer.MIN_VALUE + 1, Integer.MIN_VALUE + 3, -65536, -65533, -256, -253,
            -6, -3, -1, 0};
        for (int maxBlocks : tooSmall) {
            dueCapacity(maxBlocks, 1);
        }
    }

    private static void tooLargeACapacity() {
        int[] tooLarge = {7, 8, 9, 16, 17, 255, 256, 259, 65536, 65539, 1 << 30, Integer.MAX_VALUE - 1,
            Integer.MAX_VALUE};
        for (int maxBlocks : tooLarge) {
            dueCapacity(maxBlocks, 6);
        }
    }

    private static void capacitiesInRange() {
        for (int maxBlocks = 1; maxBlocks <= 6; maxBlocks++) {
            dueCapacity(maxBlocks, maxBlocks);
        }
    }

    /** What capacity() says and what the stream takes are two things: both are due. */
    private static void dueCapacity(int maxBlocks, int cap) {
        CabacResidual x = new CabacResidual(maxBlocks);
        Due.is("capacity() of a new one with " + maxBlocks, x.capacity(), cap);
        for (int place = 0; place < cap; place++) {
            Due.is("commit(" + place + ") with " + maxBlocks, x.commit(place), place);
        }
        Due.is("a commit too many with " + maxBlocks, x.commit(cap), CabacResidual.R_FULL);
        Due.is("blockCount() with " + maxBlocks, x.blockCount(), cap);
    }

    private static void freshStaging() {
        Due.is("staged on a fresh object", Blocks.staged(new CabacResidual(4)), Blocks.text(Blocks.ZEROS));
    }

    private static void freshMode() {
        CabacResidual x = new CabacResidual(4);
        Due.is("isOpen() on a fresh object", x.isOpen(), true);
        Due.is("decodeNext() on a fresh object", x.decodeNext(), CabacResidual.R_OPEN);
        Due.is("rewind() on a fresh object", x.rewind(), false);
    }

    private static void freshStream() {
        CabacResidual x = new CabacResidual(4);
        Due.is("blockCount() on a fresh object", x.blockCount(), 0);
        Due.is("used places on a fresh object", Blocks.usedPlaces(x), "");
        x.finish();
        Due.is("decodeNext() of the empty stream", x.decodeNext(), CabacResidual.R_END);
    }

    private static void freshView() {
        CabacResidual x = new CabacResidual(4);
        Due.is("decodedCount() on a fresh object", x.decodedCount(), 0);
        Due.is("decodedPlace() on a fresh object", x.decodedPlace(), -1);
        Due.is("view on a fresh object", Blocks.decoded(x), Blocks.text(Blocks.ZEROS));
    }

    private static void freshBesideAnOlderObject() {
        for (State state : State.values()) {
            CabacResidual older = state.make();
            CabacResidual x = new CabacResidual(5);
            Due.is("a fresh object beside one " + state, Blocks.all(x), Blocks.fresh(5));
            Blocks.stage(x, Blocks.levels(4));
            x.commit(11);
            x.finish();
            x.decodeNext();
            Due.is("the one " + state + " beside a used one", State.future(older), State.future(state.make()));
        }
    }

    private static void setLevelAt(int[] positions) {
        for (State state : State.values()) {
            CabacResidual x = state.make();
            for (int pos : positions) {
                Due.is("setLevel(" + pos + ", 5) " + state, x.setLevel(pos, 5), false);
                Due.is("setLevel(" + pos + ", 0) " + state, x.setLevel(pos, 0), false);
            }
        }
    }

    private static void setLevelTo(int[] levels) {
        for (State state : State.values()) {
            CabacResidual x = state.make();
            for (int level : levels) {
                for (int pos = 0; pos < 16; pos++) {
                    Due.is("setLevel(" + pos + ", " + level + ") " + state, x.setLevel(pos, level), false);
                }
            }
        }
    }

    private static void setLevelWithBothWrong() {
        CabacResidual x = State.STAGED.make();
        for (int pos : Blocks.OUTSIDE_16) {
            for (int level : Blocks.OUTSIDE_LEVELS) {
                Due.is("setLevel(" + pos + ", " + level + ")", x.setLevel(pos, level), false);
            }
        }
        Due.is("staged after both were wrong", Blocks.staged(x), Blocks.text(Blocks.levels(9)));
    }

    private static void refusedSetLevelChangesNothing() {
        for (State state : State.values()) {
            for (int pos : Blocks.OUTSIDE_16) {
                state.keptBy("setLevel(" + pos + ", 5)", x -> x.setLevel(pos, 5));
            }
            for (int level : Blocks.OUTSIDE_LEVELS) {
                state.keptBy("setLevel to " + level, x -> {
                    for (int pos = 0; pos < 16; pos++) {
                        x.setLevel(pos, level);
                    }
                });
            }
        }
    }

    private static void setLevelAtTheEdges() {
        int[] positions = {0, 1, 14, 15};
        int[] levels = {-32768, -32767, -1, 0, 1, 32767, 32768};
        for (int pos : positions) {
            CabacResidual x = new CabacResidual(1);
            for (int level : levels) {
                Due.is("setLevel(" + pos + ", " + level + ")", x.setLevel(pos, level), true);
                Due.is("getStaged(" + pos + ") of " + level, x.getStaged(pos), level);
            }
        }
    }

    private static void setLevelInEveryState() {
        for (State state : State.values()) {
            CabacResidual x = state.make();
            for (int pos = 0; pos < 16; pos++) {
                Due.is("setLevel(" + pos + ", " + (100 + pos) + ") " + state, x.setLevel(pos, 100 + pos), true);
            }
            for (int pos = 0; pos < 16; pos++) {
                Due.is("getStaged(" + pos + ") " + state, x.getStaged(pos), 100 + pos);
            }
        }
    }

    private static void setLevelTouchesNothingElse() {
        for (State state : State.values()) {
            for (int pos = 0; pos < 16; pos++) {
                int at = pos;
                int was = state.make().getStaged(at);
                state.keptBy("setLevel at " + at + " and back", x -> {
                    x.setLevel(at, 12345);
                    Due.is("staged after setLevel at " + at, Blocks.staged(x), stagedWith(state, at, 12345));
                    x.setLevel(at, was);
                });
            }
        }
    }

    private static String stagedWith(State state, int pos, int level) {
        CabacResidual x = state.make();
        int[] levels = new int[16];
        for (int i = 0; i < 16; i++) {
            levels[i] = i == pos ? level : x.getStaged(i);
        }
        return Blocks.text(levels);
    }

    private static void committedBlocksOutliveSetLevel() {
        CabacResidual x = State.PART_FULL.make();
        Blocks.stage(x, Blocks.levels(20));
        x.finish();
        Blocks.stage(x, Blocks.levels(21));
        Blocks.dueNext(x, 15, Blocks.levels(1));
        Blocks.stage(x, Blocks.levels(22));
        Due.is("the block in view", Blocks.decoded(x), Blocks.text(Blocks.levels(1)));
        Blocks.dueNext(x, 0, Blocks.levels(2));
    }

    private static void setPairAt(int[] pairs) {
        for (State state : State.values()) {
            CabacResidual x = state.make();
            for (int pair : pairs) {
                Due.is("setPair(" + pair + ", 1, 2) " + state, x.setPair(pair, 1, 2), false);
            }
        }
    }

    private static void setPairWithA(int[] levels) {
        for (State state : State.values()) {
            CabacResidual x = state.make();
            for (int level : levels) {
                for (int pair = 0; pair < 8; pair++) {
                    Due.is("setPair(" + pair + ", " + level + ", 2) " + state, x.setPair(pair, level, 2), false);
                }
            }
        }
    }

    private static void setPairWithB(int[] levels) {
        for (State state : State.values()) {
            CabacResidual x = state.make();
            for (int level : levels) {
                for (int pair = 0; pair < 8; pair++) {
                    Due.is("setPair(" + pair + ", 1, " + level + ") " + state, x.setPair(pair, 1, level), false);
                }
            }
        }
    }

    private static void setPairWithMoreThanOneWrong() {
        CabacResidual x = State.STAGED.make();
        for (int a : Blocks.OUTSIDE_LEVELS) {
            for (int pair : Blocks.OUTSIDE_8) {
                Due.is("setPair(" + pair + ", " + a + ", 2)", x.setPair(pair, a, 2), false);
                Due.is("setPair(" + pair + ", 1, " + a + ")", x.setPair(pair, 1, a), false);
                Due.is("setPair(" + pair + ", " + a + ", 32769)", x.setPair(pair, a, 32769), false);
            }
            for (int b : Blocks.OUTSIDE_LEVELS) {
                Due.is("setPair(3, " + a + ", " + b + ")", x.setPair(3, a, b), false);
            }
        }
        Due.is("staged after more than one was wrong", Blocks.staged(x), Blocks.text(Blocks.levels(9)));
    }

    private static void refusedSetPairChangesNothing() {
        for (State state : State.values()) {
            for (int pair : Blocks.OUTSIDE_8) {
                state.keptBy("setPair(" + pair + ", 1, 2)", x -> x.setPair(pair, 1, 2));
            }
            for (int level : Blocks.OUTSIDE_LEVELS) {
                state.keptBy("setPair with " + level, x -> {
                    for (int pair = 0; pair < 8; pair++) {
                        x.setPair(pair, level, 2);
                        x.setPair(pair, level, level);
                    }
                });
            }
        }
    }

    private static void onlyBOutOfRange() {
        for (State state : State.values()) {
            for (int b : Blocks.OUTSIDE_LEVELS) {
                state.keptBy("setPair with only b wrong, " + b, x -> {
                    for (int pair = 0; pair < 8; pair++) {
                        x.setPair(pair, 32768, b);
                        x.setPair(pair, -32768, b);
                        x.setPair(pair, 1, b);
                    }
                });
            }
        }
    }

    private static void setPairAtTheEdges() {
        int[] levels = {-32768, -32767, -1, 0, 1, 32767, 32768};
        for (int pair = 0; pair < 8; pair++) {
            CabacResidual x = new CabacResidual(1);
            for (int a : levels) {
                for (int b : levels) {
                    Due.is("setPair(" + pair + ", " + a + ", " + b + ")", x.setPair(pair, a, b), true);
                    Due.is("the first of pair " + pair, x.getStaged(2 * pair), a);
                    Due.is("the second of pair " + pair, x.getStaged(2 * pair + 1), b);
                }
            }
        }
    }

    private static void setPairInEveryState() {
        for (State state : State.values()) {
            CabacResidual x = state.make();
            int[] want = new int[16];
            for (int pair = 0; pair < 8; pair++) {
                want[2 * pair] = 200 + pair;
                want[2 * pair + 1] = -300 - pair;
                Due.is("setPair " + pair + " " + state, x.setPair(pair, 200 + pair, -300 - pair), true);
            }
            Due.is("staged by pairs " + state, Blocks.staged(x), Blocks.text(want));
        }
    }

    private static void setPairTouchesNothingElse() {
        for (State state : State.values()) {
            for (int pair = 0; pair < 8; pair++) {
                int at = pair;
                CabacResidual twin = state.make();
                int a = twin.getStaged(2 * at);
                int b = twin.getStaged(2 * at + 1);
                state.keptBy("setPair at " + at + " and back", x -> {
                    x.setPair(at, 12345, b);
                    Due.is("staged after setPair at " + at, Blocks.staged(x), stagedWith(state, 2 * at, 12345));
                    x.setPair(at, a, -12345);
                    Due.is("staged after setPair at " + at, Blocks.staged(x), stagedWith(state, 2 * at + 1, -12345));
                    x.setPair(at, a, b);
                });
            }
        }
    }

    private static void clearStagingReachesBothEnds() {
        for (int pos = 0; pos < 16; pos++) {
            CabacResidual x = new CabacResidual(1);
            x.setLevel(pos, 32768);
            x.clearStaging();
            Due.is("staged after clearing " + pos, Blocks.staged(x), Blocks.text(Blocks.ZEROS));
        }
        CabacResidual full = State.STAGED.make();
        full.clearStaging();
        Due.is("staged after clearing all", Blocks.staged(full), Blocks.text(Blocks.ZEROS));
        full.clearStaging();
        Due.is("staged after clearing nothing", Blocks.staged(full), Blocks.text(Blocks.ZEROS));
    }

    private static void clearStagingInEveryState() {
        for (State state : State.values()) {
            CabacResidual x = state.make();
            x.clearStaging();
            Due.is("staged after clearStaging " + state, Blocks.staged(x), Blocks.text(Blocks.ZEROS));
        }
    }

    private static void clearStagingTouchesNothingElse() {
        for (State state : State.values()) {
            int[] levels = state == State.FRESH ? Blocks.ZEROS : Blocks.levels(9);
            state.keptBy("clearStaging and staging again", x -> {
                x.clearStaging();
                Blocks.stage(x, levels);
            });
        }
    }

    private static void committedBlocksOutliveClearStaging() {
        CabacResidual x = State.PART_FULL.make();
        x.clearStaging();
        x.finish();
        Blocks.dueNext(x, 15, Blocks.levels(1));
        x.clearStaging();
        Due.is("the block in view", Blocks.decoded(x), Blocks.text(Blocks.levels(1)));
        Blocks.dueNext(x, 0, Blocks.levels(2));
    }

    private static void getStagedInRange() {
        for (State state : State.values()) {
            int[] levels = state == State.FRESH ? Blocks.ZEROS : Blocks.levels(9);
            CabacResidual x = state.make();
            for (int pos = 0; pos < 16; pos++) {
                Due.is("getStaged(" + pos + ") " + state, x.getStaged(pos), levels[pos]);
            }
        }
    }

    private static void getStagedAt(int[] positions) {
        for (State state : State.values()) {
            CabacResidual x = state.make();
            for (int pos : positions) {
                Due.is("getStaged(" + pos + ") " + state, x.getStaged(pos), 0);
            }
        }
    }

    private static void getStagedChangesNothing() {
        for (State state : State.values()) {
            state.keptBy("getStaged", x -> {
                for (int pos = -40; pos < 40; pos++) {
                    x.getStaged(pos);
                }
                for (int pos : Blocks.OUTSIDE_16) {
                    x.getStaged(pos);
                }
            });
        }
    }
}
