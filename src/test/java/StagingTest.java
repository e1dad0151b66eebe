/** Promises 1 to 5: the constructor and the staging calls. */
public final class StagingTest {
    public static void main(String[] args) {
        promise1Construction();
        promise1ObjectsShareNothing();
        promise2SetLevel();
        promise2Refusals();
        promise3SetPair();
        promise3Refusals();
        promise4ClearStaging();
        promise5GetStaged();
        stagingCallsKeepAnOpenStream();
        stagingCallsKeepAClosedStream();
        Due.end("StagingTest");
    }

    private static void promise1Construction() {
        int[][] argumentAndCap = {
            {Integer.MIN_VALUE, 1}, {-100, 1}, {-1, 1}, {0, 1}, {1, 1}, {2, 2}, {3, 3}, {4, 4}, {5, 5}, {6, 6},
            {7, 6}, {8, 6}, {1000, 6}, {Integer.MAX_VALUE, 6}};
        for (int[] row : argumentAndCap) {
            CabacResidual x = new CabacResidual(row[0]);
            Due.is("a fresh object of " + row[0], Blocks.all(x), Blocks.fresh(row[1]));
            for (int place = 0; place < row[1]; place++) {
                Due.is("commit(" + place + ")", x.commit(place), place);
            }
            Due.is("commit over the capacity", x.commit(15), CabacResidual.R_FULL);
        }
    }

    private static void promise1ObjectsShareNothing() {
        CabacResidual a = new CabacResidual(2);
        Blocks.stage(a, Blocks.levels(1));
        a.commit(3);
        a.finish();
        a.decodeNext();
        String before = Blocks.all(a);
        CabacResidual b = new CabacResidual(5);
        Due.is("a fresh object beside another", Blocks.all(b), Blocks.fresh(5));
        Blocks.stage(b, Blocks.levels(2));
        b.commit(7);
        b.reset();
        Due.is("the other object", Blocks.all(a), before);
    }

    private static void promise2SetLevel() {
        int[] levels = {-32768, -32767, -16, -15, -14, -2, -1, 0, 1, 2, 14, 15, 16, 255, 32767, 32768};
        for (int pos = 0; pos < 16; pos++) {
            for (int level : levels) {
                CabacResidual x = new CabacResidual(3);
                int[] want = Blocks.levels(1);
                Blocks.stage(x, want);
                Due.is("setLevel(" + pos + ", " + level + ")", x.setLevel(pos, level), true);
                want[pos] = level;
                Due.is("staged after setLevel at " + pos, Blocks.staged(x), Blocks.text(want));
            }
        }
    }

    private static void promise2Refusals() {
        CabacResidual x = new CabacResidual(3);
        Blocks.stage(x, Blocks.levels(2));
        String before = Blocks.all(x);
        for (int pos : Blocks.OUTSIDE_16) {
            Due.is("setLevel(" + pos + ", 5)", x.setLevel(pos, 5), false);
            Due.is("setLevel(" + pos + ", 40000)", x.setLevel(pos, 40000), false);
        }
        for (int level : Blocks.OUTSIDE_LEVELS) {
            for (int pos = 0; pos < 16; pos++) {
                Due.is("setLevel(" + pos + ", " + level + ")", x.setLevel(pos, level), false);
            }
        }
        Due.is("state after refused setLevel", Blocks.all(x), before);
    }

    private static void promise3SetPair() {
        for (int pair = 0; pair < 8; pair++) {
            CabacResidual x = new CabacResidual(3);
            int[] want = Blocks.levels(1);
            Blocks.stage(x, want);
            Due.is("setPair(" + pair + ", -32768, 32768)", x.setPair(pair, -32768, 32768), true);
            want[2 * pair] = -32768;
            want[2 * pair + 1] = 32768;
            Due.is("staged after setPair " + pair, Blocks.staged(x), Blocks.text(want));
            Due.is("setPair(" + pair + ", 32768, -32768)", x.setPair(pair, 32768, -32768), true);
            want[2 * pair] = 32768;
            want[2 * pair + 1] = -32768;
            Due.is("staged after setPair " + pair, Blocks.staged(x), Blocks.text(want));
            Due.is("setPair(" + pair + ", 0, 9)", x.setPair(pair, 0, 9), true);
            want[2 * pair] = 0;
            want[2 * pair + 1] = 9;
            Due.is("staged after setPair " + pair, Blocks.staged(x), Blocks.text(want));
        }
    }

    private static void promise3Refusals() {
        CabacResidual x = new CabacResidual(3);
        Blocks.stage(x, Blocks.levels(2));
        String before = Blocks.all(x);
        int[] badPairs = {Integer.MIN_VALUE, -8, -1, 8, 9, 15, 16, 1 << 30, (1 << 30) + 1, Integer.MAX_VALUE};
        for (int pair : badPairs) {
            Due.is("setPair(" + pair + ", 1, 2)", x.setPair(pair, 1, 2), false);
        }
        for (int level : Blocks.OUTSIDE_LEVELS) {
            for (int pair = 0; pair < 8; pair++) {
                Due.is("setPair(" + pair + ", " + level + ", 2)", x.setPair(pair, level, 2), false);
                Due.is("setPair(" + pair + ", 1, " + level + ")", x.setPair(pair, 1, level), false);
                Due.is("setPair(" + pair + ", twice " + level + ")", x.setPair(pair, level, level), false);
            }
        }
        Due.is("state after refused setPair", Blocks.all(x), before);
    }

    private static void promise4ClearStaging() {
        CabacResidual x = new CabacResidual(3);
        x.clearStaging();
        Due.is("clearStaging on a fresh object", Blocks.all(x), Blocks.fresh(3));
        Blocks.stage(x, Blocks.levels(3));
        x.clearStaging();
        Due.is("clearStaging after staging", Blocks.all(x), Blocks.fresh(3));
    }

    private static void promise5GetStaged() {
        CabacResidual x = new CabacResidual(3);
        int[] levels = Blocks.levels(4);
        Blocks.stage(x, levels);
        String before = Blocks.all(x);
        for (int pos = 0; pos < 16; pos++) {
            Due.is("getStaged(" + pos + ")", x.getStaged(pos), levels[pos]);
        }
        for (int pos : Blocks.OUTSIDE_16) {
            Due.is("getStaged(" + pos + ")", x.getStaged(pos), 0);
        }
        Due.is("state after getStaged", Blocks.all(x), before);
    }

    private static void stagingCallsKeepAnOpenStream() {
        CabacResidual x = new CabacResidual(3);
        Blocks.stage(x, Blocks.levels(1));
        x.commit(4);
        String untouched = "0 at -1: " + Blocks.text(Blocks.ZEROS);
        int[] want = Blocks.levels(1);
        x.setLevel(0, 77);
        want[0] = 77;
        Due.is("setLevel while OPEN", Blocks.all(x), Blocks.shown(3, true, 1, "4 ", Blocks.text(want), untouched));
        x.setPair(7, 88, 99);
        want[14] = 88;
        want[15] = 99;
        Due.is("setPair while OPEN", Blocks.all(x), Blocks.shown(3, true, 1, "4 ", Blocks.text(want), untouched));
        x.clearStaging();
        Due.is("clearStaging while OPEN", Blocks.all(x),
                Blocks.shown(3, true, 1, "4 ", Blocks.text(Blocks.ZEROS), untouched));
        x.finish();
        Blocks.dueNext(x, 4, Blocks.levels(1));
    }

    private static void stagingCallsKeepAClosedStream() {
        CabacResidual x = new CabacResidual(3);
        Blocks.stage(x, Blocks.levels(1));
        x.commit(4);
        Blocks.stage(x, Blocks.levels(2));
        x.commit(9);
        x.finish();
        x.decodeNext();
        String view = "1 at 4: " + Blocks.text(Blocks.levels(1));
        int[] want = Blocks.levels(2);
        Due.is("setLevel while CLOSED", x.setLevel(5, -32768), true);
        want[5] = -32768;
        Due.is("setLevel while CLOSED", Blocks.all(x), Blocks.shown(3, false, 2, "4 9 ", Blocks.text(want), view));
        Due.is("setPair while CLOSED", x.setPair(0, 5, 6), true);
        want[0] = 5;
        want[1] = 6;
        Due.is("setPair while CLOSED", Blocks.all(x), Blocks.shown(3, false, 2, "4 9 ", Blocks.text(want), view));
        x.clearStaging();
        Due.is("clearStaging while CLOSED", Blocks.all(x),
                Blocks.shown(3, false, 2, "4 9 ", Blocks.text(Blocks.ZEROS), view));
        Blocks.dueNext(x, 9, Blocks.levels(2));
    }
}
