/** "Terms and state": a test for each sentence that names a boundary case or says what holds at all times. */
public final class TermsEdgesTest {
    private static final int DEPTH = 6;
    private static final String[] CALLS = {"setLevel(0, 32768)", "commit(0)", "commit(1)", "commit(16)", "finish()",
        "decodeNext()", "rewind()", "reset()"};

    public static void main(String[] args) {
        Sentence.holds("terms", "-32768..32768 inclusive (note that 32768 is allowed)", TermsEdgesTest::levelRange);
        Sentence.holds("terms", "Only setLevel, setPair and clearStaging change it; no other call does",
                TermsEdgesTest::otherCallsKeepStaging);
        Sentence.holds("terms", "cap: [..] it never changes", TermsEdgesTest::everyCallKeepsCap);
        Sentence.holds("terms", "each a place and a copy of the 16 staged levels at the moment of its commit",
                TermsEdgesTest::blocksAreCopies);
        Sentence.holds("terms", "At all times 0 <= d <= n <= cap holds", () -> runEverySequence(TermsEdgesTest::dueInOrder));
        Sentence.holds("terms", "while the mode is OPEN, d is 0, the view place is -1 and the view levels are all 0",
                () -> runEverySequence(TermsEdgesTest::dueEmptyWhileOpen));
        Sentence.holds("8", "decodedCount() <= blockCount() always holds",
                () -> runEverySequence(TermsEdgesTest::dueNoMoreDecodedThanCommitted));
        Due.end("TermsEdgesTest");
    }

    private interface Invariant {
        void due(CabacResidual x, int sequence);
    }

    private static void levelRange() {
        int[] levels = {-32769, -32768, -32767, 32767, 32768, 32769};
        for (int level : levels) {
            boolean isLevel = level != -32769 && level != 32769;
            CabacResidual x = new CabacResidual(1);
            Due.is("setLevel(0, " + level + ")", x.setLevel(0, level), isLevel);
            Due.is("setPair(4, " + level + ", 0)", x.setPair(4, level, 0), isLevel);
            Due.is("setPair(7, 0, " + level + ")", x.setPair(7, 0, level), isLevel);
            int kept = isLevel ? level : 0;
            Due.is("getStaged(0)", x.getStaged(0), kept);
            Due.is("getStaged(8)", x.getStaged(8), kept);
            Due.is("getStaged(15)", x.getStaged(15), kept);
        }
        Due.is("MIN_LEVEL", CabacResidual.MIN_LEVEL, -32768);
        Due.is("MAX_LEVEL", CabacResidual.MAX_LEVEL, 32768);
    }

    private static void otherCallsKeepStaging() {
        for (State state : State.values()) {
            String staged = Blocks.staged(state.make());
            CabacResidual x = state.make();
            for (int round = 0; round < 2; round++) {
                for (int place = -1; place <= 16; place++) {
                    x.commit(place);
                    Due.is("staged after commit(" + place + ") " + state, Blocks.staged(x), staged);
                }
                x.finish();
                Due.is("staged after finish " + state, Blocks.staged(x), staged);
                for (int i = 0; i < 4; i++) {
                    x.decodeNext();
                    Due.is("staged after decodeNext " + state, Blocks.staged(x), staged);
                }
                x.rewind();
                Due.is("staged after rewind " + state, Blocks.staged(x), staged);
                x.reset();
                Due.is("staged after reset " + state, Blocks.staged(x), staged);
            }
        }
    }

    private static void everyCallKeepsCap() {
        for (State state : State.values()) {
            int cap = state.make().capacity();
            CabacResidual x = state.make();
            for (int round = 0; round < 2; round++) {
                for (int call = 0; call < CALLS.length; call++) {
                    doCall(x, call);
                    Due.is("capacity() after " + CALLS[call] + " " + state, x.capacity(), cap);
                }
                x.setPair(0, 1, 2);
                x.clearStaging();
                Due.is("capacity() after staging " + state, x.capacity(), cap);
            }
        }
    }

    private static void blocksAreCopies() {
        CabacResidual x = new CabacResidual(6);
        for (int i = 0; i < 6; i++) {
            Blocks.stage(x, Blocks.levels(i + 1));
            x.commit(i);
        }
        x.clearStaging();
        x.finish();
        for (int i = 0; i < 6; i++) {
            Blocks.dueNext(x, i, Blocks.levels(i + 1));
        }
    }

    /** Every sequence of DEPTH calls, on a capacity that they can overrun and on one that they can't. */
    private static void runEverySequence(Invariant invariant) {
        int sequences = 1;
        for (int i = 0; i < DEPTH; i++) {
            sequences *= CALLS.length;
        }
        for (int cap = 1; cap <= 3; cap += 2) {
            for (int sequence = 0; sequence < sequences; sequence++) {
                CabacResidual x = new CabacResidual(cap);
                int left = sequence;
                for (int i = 0; i < DEPTH; i++) {
                    doCall(x, left % CALLS.length);
                    invariant.due(x, sequence);
                    left /= CALLS.length;
                }
            }
        }
    }

    private static void doCall(CabacResidual x, int call) {
        switch (call) {
            case 0 -> x.setLevel(0, 32768);
            case 1 -> x.commit(0);
            case 2 -> x.commit(1);
            case 3 -> x.commit(16);
            case 4 -> x.finish();
            case 5 -> x.decodeNext();
            case 6 -> x.rewind();
            default -> x.reset();
        }
    }

    private static void dueInOrder(CabacResidual x, int sequence) {
        boolean inOrder = 0 <= x.decodedCount() && x.decodedCount() <= x.blockCount() && x.blockCount() <= x.capacity();
        if (!inOrder) {
            Due.never("d, n, cap: " + x.decodedCount() + ", " + x.blockCount() + ", " + x.capacity() + named(sequence));
        }
    }

    private static void dueEmptyWhileOpen(CabacResidual x, int sequence) {
        if (!x.isOpen()) {
            return;
        }
        boolean empty = x.decodedCount() == 0 && x.decodedPlace() == -1;
        for (int pos = 0; pos < 16; pos++) {
            empty = empty && x.getDecoded(pos) == 0;
        }
        if (!empty) {
            Due.never("while OPEN " + Blocks.all(x) + named(sequence));
        }
    }

    private static void dueNoMoreDecodedThanCommitted(CabacResidual x, int sequence) {
        if (x.decodedCount() > x.blockCount()) {
            Due.never("decoded " + x.decodedCount() + " of " + x.blockCount() + named(sequence));
        }
    }

    private static String named(int sequence) {
        StringBuilder text = new StringBuilder(" in the sequence");
        int left = sequence;
        for (int i = 0; i < DEPTH; i++) {
            text.append(' ').append(CALLS[left % CALLS.length]);
            left /= CALLS.length;
        }
        return text.toString();
    }
}
