import java.util.List;
import java.util.function.Consumer;
import java.util.function.Function;

/** The situations an object can be in: each refusal and each "unchanged" is tried in all that it speaks of. */
enum State {
    FRESH, STAGED, PART_FULL, FULL, AFTER_RESET, USED_AFTER_RESET,
    CLOSED_EMPTY, CLOSED, DECODING, AT_END, PAST_END, REWOUND;

    static final State[] OPEN_ONES = {FRESH, STAGED, PART_FULL, FULL, AFTER_RESET, USED_AFTER_RESET};
    static final State[] CLOSED_ONES = {CLOSED_EMPTY, CLOSED, DECODING, AT_END, PAST_END, REWOUND};

    private static final int PROBE_READS = 8;

    // Each look is taken on an object of its own: one that changed what it looks at, or what
    // another looks at, would otherwise do so on both twins alike and stay unseen.
    private static final List<Function<CabacResidual, Object>> LOOKS = List.of(
            CabacResidual::capacity, CabacResidual::isOpen, CabacResidual::blockCount, CabacResidual::decodedCount,
            CabacResidual::decodedPlace, Blocks::usedPlaces, Blocks::staged, Blocks::decoded,
            State::blocksToCome, State::future);

    /** A new object in this situation; two calls give two objects with the same past. */
    CabacResidual make() {
        return switch (this) {
            case FRESH -> new CabacResidual(3);
            case STAGED -> staged(3);
            case PART_FULL -> twoBlocks(3);
            case FULL -> twoBlocks(2);
            case AFTER_RESET -> reset();
            case USED_AFTER_RESET -> usedAfterReset();
            case CLOSED_EMPTY -> closed(staged(3), 0);
            case CLOSED -> closed(twoBlocks(3), 0);
            case DECODING -> closed(twoBlocks(3), 1);
            case AT_END -> closed(twoBlocks(2), 2);
            case PAST_END -> closed(twoBlocks(3), 4);
            case REWOUND -> rewound();
        };
    }

    /** Compares an object that got the calls with a twin that didn't: the calls must have changed nothing. */
    void keptBy(String what, Consumer<CabacResidual> calls) {
        for (Function<CabacResidual, Object> look : LOOKS) {
            CabacResidual x = make();
            calls.accept(x);
            Due.is(this + " after " + what, look.apply(x).toString(), look.apply(make()).toString());
        }
    }

    /** The blocks still to be read and then all of them, without a call that is refused. */
    private static String blocksToCome(CabacResidual x) {
        if (x.isOpen()) {
            x.finish();
        }
        StringBuilder text = new StringBuilder();
        readToTheEnd(x, text);
        x.rewind();
        readToTheEnd(x, text);
        return text.toString();
    }

    private static void readToTheEnd(CabacResidual x, StringBuilder text) {
        for (int i = x.decodedCount(); i < x.blockCount(); i++) {
            text.append(x.decodeNext()).append(": ").append(Blocks.decoded(x)).append('\n');
        }
    }

    /** What the object shows now and will show later, to calls that are allowed and calls that are refused. */
    static String future(CabacResidual x) {
        StringBuilder text = new StringBuilder(Blocks.all(x));
        text.append("\ncommit ").append(x.commit(3)).append(' ').append(x.commit(3));
        text.append("\nfinish ").append(x.finish()).append(' ').append(Blocks.all(x));
        readPastTheEnd(x, text);
        text.append("\nrewind ").append(x.rewind()).append(' ').append(Blocks.all(x));
        readPastTheEnd(x, text);
        x.reset();
        text.append("\nreset ").append(Blocks.all(x));
        text.append("\ncommit ").append(x.commit(0)).append(" finish ").append(x.finish());
        readPastTheEnd(x, text);
        return text.toString();
    }

    private static void readPastTheEnd(CabacResidual x, StringBuilder text) {
        for (int i = 0; i < PROBE_READS; i++) {
            text.append("\ndecodeNext ").append(x.decodeNext()).append(' ').append(Blocks.all(x));
        }
    }

    private static CabacResidual staged(int cap) {
        CabacResidual x = new CabacResidual(cap);
        Blocks.stage(x, Blocks.levels(9));
        return x;
    }

    /** Blocks.levels(1) at place 15 and Blocks.levels(2) at place 0, with Blocks.levels(9) staged. */
    private static CabacResidual twoBlocks(int cap) {
        CabacResidual x = new CabacResidual(cap);
        Blocks.stage(x, Blocks.levels(1));
        x.commit(15);
        Blocks.stage(x, Blocks.levels(2));
        x.commit(0);
        Blocks.stage(x, Blocks.levels(9));
        return x;
    }

    private static CabacResidual closed(CabacResidual x, int reads) {
        x.finish();
        for (int i = 0; i < reads; i++) {
            x.decodeNext();
        }
        return x;
    }

    private static CabacResidual rewound() {
        CabacResidual x = closed(twoBlocks(3), 2);
        x.rewind();
        return x;
    }

    private static CabacResidual reset() {
        CabacResidual x = closed(twoBlocks(3), 1);
        x.reset();
        return x;
    }

    private static CabacResidual usedAfterReset() {
        CabacResidual x = reset();
        x.commit(7);
        return x;
    }
}
