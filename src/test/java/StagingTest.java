/** Promises 2 to 5: the staging calls in ordinary use. */
public final class StagingTest {
    public static void main(String[] args) {
        promise2SetLevel();
        promise3SetPair();
        stagingCallsKeepAnOpenStream();
        stagingCallsKeepAClosedStream();
        Due.end("StagingTest");
    }

    private static void promise2SetLevel() {
        int[] levels = {-32768, -32767, -16, -15, -14, -2, -1, 0, 1, 2, 14, 15, 16, 255, 32767, 32768};
        for (int pos = 0; pos < 16; pos++) {
            for (int level : levels) {
                CabacResidual x = new CabacResidual(3);
                int[] want = Blocks.levels(1);
                Blocks.stage(x, want);
                Due.is("setLevel(" + pos + ", " + level + ")", x.setLevel(pos, level), true);
                want[pos] = level;
                Due.is("staged after setLevel at " + pos, Blocks.staged(x), Blocks.text(want));
            }
        }
    }

    private static void promise3SetPair() {
        for (int pair = 0; pair < 8; pair++) {
            CabacResidual x = new CabacResidual(3);
            int[] want = Blocks.levels(1);
            Blocks.stage(x, want);
            Due.is("setPair(" + pair + ", -32768, 32768)", x.setPair(pair, -32768, 32768), true);
            want[2 * pair] = -32768;
            want[2 * pair + 1] = 32768;
            Due.is("staged after setPair " + pair, Blocks.staged(x), Blocks.text(want));
            Due.is("setPair(" + pair + ", 32768, -32768)", x.setPair(pair, 32768, -32768), true);
            want[2 * pair] = 32768;
            want[2 * pair + 1] = -32768;
            Due.is("staged after setPair " + pair, Blocks.staged(x), Blocks.text(want));
            Due.is("setPair(" + pair + ", 0, 9)", x.setPair(pair, 0, 9), true);
            want[2 * pair] = 0;
            want[2 * pair + 1] = 9;
            Due.is("staged after setPair " + pair, Blocks.staged(x), Blocks.text(want));
        }
    }

    private static void stagingCallsKeepAnOpenStream() {
        CabacResidual x = new CabacResidual(3);
        Blocks.stage(x, Blocks.levels(1));
        x.commit(4);
        String untouched = "0 at -1: " + Blocks.text(Blocks.ZEROS);
        int[] want = Blocks.levels(1);
        x.setLevel(0, 77);
        want[0] = 77;
        Due.is("setLevel while OPEN", Blocks.all(x), Blocks.shown(3, true, 1, "4 ", Blocks.text(want), untouched));
        x.setPair(7, 88, 99);
        want[14] = 88;
        want[15] = 99;
        Due.is("setPair while OPEN", Blocks.all(x), Blocks.shown(3, true, 1, "4 ", Blocks.text(want), untouched));
        x.clearStaging();
        Due.is("clearStaging while OPEN", Blocks.all(x),
                Blocks.shown(3, true, 1, "4 ", Blocks.text(Blocks.ZEROS), untouched));
        x.finish();
        Blocks.dueNext(x, 4, Blocks.levels(1));
    }

    private static void stagingCallsKeepAClosedStream() {
        CabacResidual x = new CabacResidual(3);
        Blocks.stage(x, Blocks.levels(1));
        x.commit(4);
        Blocks.stage(x, Blocks.levels(2));
        x.commit(9);
        x.finish();
        x.decodeNext();
        String view = "1 at 4: " + Blocks.text(Blocks.levels(1));
        int[] want = Blocks.levels(2);
        Due.is("setLevel while CLOSED", x.setLevel(5, -32768), true);
        want[5] = -32768;
        Due.is("setLevel while CLOSED", Blocks.all(x), Blocks.shown(3, false, 2, "4 9 ", Blocks.text(want), view));
        Due.is("setPair while CLOSED", x.setPair(0, 5, 6), true);
        want[0] = 5;
        want[1] = 6;
        Due.is("setPair while CLOSED", Blocks.all(x), Blocks.shown(3, false, 2, "4 9 ", Blocks.text(want), view));
        x.clearStaging();
        Due.is("clearStaging while CLOSED", Blocks.all(x),
                Blocks.shown(3, false, 2, "4 9 ", Blocks.text(Blocks.ZEROS), view));
        Blocks.dueNext(x, 9, Blocks.levels(2));
    }
}
