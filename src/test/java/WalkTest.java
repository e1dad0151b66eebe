/** Long mixed runs of calls, each compared with the model: every promise, in orders nobody thought of. */
public final class WalkTest {
    private static final int WALKS = 600;
    private static final int CALLS = 250;
    private static final int[] ODD_NUMBERS = {Integer.MIN_VALUE, -32769, -32768, -1, 0, 1, 7, 8, 15, 16, 32768, 32769,
        Integer.MAX_VALUE};

    // A fixed sequence of our own, so that a failing walk comes back the same each time.
    private long seed = 20261115L;

    public static void main(String[] args) {
        WalkTest test = new WalkTest();
        for (int walk = 0; walk < WALKS && Due.wrongSoFar() == 0; walk++) {
            test.walk(walk);
        }
        Due.end("WalkTest");
    }

    private int next(int bound) {
        seed = seed * 6364136223846793005L + 1442695040888963407L;
        return (int) ((seed >>> 33) % bound);
    }

    private void walk(int walk) {
        int maxBlocks = next(10) - 1;
        CabacResidual x = new CabacResidual(maxBlocks);
        Model model = new Model(maxBlocks);
        for (int call = 0; call < CALLS && Due.wrongSoFar() == 0; call++) {
            String name = "walk " + walk + " call " + call + " ";
            name += step(x, model, name);
            Due.is("state after " + name, Blocks.all(x), model.all());
        }
    }

    private String step(CabacResidual x, Model model, String at) {
        int kind = next(100);
        if (kind < 25) {
            int pos = index(16);
            int level = level();
            String call = "setLevel(" + pos + ", " + level + ")";
            Due.is(at + call, x.setLevel(pos, level), model.setLevel(pos, level));
            return call;
        }
        if (kind < 45) {
            int pair = index(8);
            int a = level();
            int b = level();
            String call = "setPair(" + pair + ", " + a + ", " + b + ")";
            Due.is(at + call, x.setPair(pair, a, b), model.setPair(pair, a, b));
            return call;
        }
        if (kind < 65) {
            int place = index(16);
            String call = "commit(" + place + ")";
            Due.is(at + call, x.commit(place), model.commit(place));
            return call;
        }
        if (kind < 83) {
            Due.is(at + "decodeNext()", x.decodeNext(), model.decodeNext());
            return "decodeNext()";
        }
        return rareStep(x, model, at, kind);
    }

    private String rareStep(CabacResidual x, Model model, String at, int kind) {
        if (kind < 87) {
            x.clearStaging();
            model.clearStaging();
            return "clearStaging()";
        }
        if (kind < 92) {
            Due.is(at + "finish()", x.finish(), model.finish());
            return "finish()";
        }
        if (kind < 96) {
            Due.is(at + "rewind()", x.rewind(), model.rewind());
            return "rewind()";
        }
        x.reset();
        model.reset();
        return "reset()";
    }

    private int index(int length) {
        return next(12) == 0 ? ODD_NUMBERS[next(ODD_NUMBERS.length)] : next(length);
    }

    private int level() {
        int kind = next(10);
        if (kind == 0) {
            return ODD_NUMBERS[next(ODD_NUMBERS.length)];
        }
        if (kind < 4) {
            return next(41) - 20;
        }
        return kind < 6 ? 0 : next(65537) - 32768;
    }
}
