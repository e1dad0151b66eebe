/** Promises 11 to 17: the getters, through one life of an object. */
public final class GettersTest {
    public static void main(String[] args) {
        promise11GetDecoded();
        promise12DecodedPlace();
        promise13DecodedCount();
        promise14BlockCount();
        promise15IsOpen();
        promise16PlaceUsed();
        promise17Capacity();
        gettersChangeNothing();
        Due.end("GettersTest");
    }

    private static CabacResidual twoBlocks() {
        CabacResidual x = new CabacResidual(4);
        Blocks.stage(x, Blocks.levels(1));
        x.commit(0);
        Blocks.stage(x, Blocks.levels(2));
        x.commit(15);
        return x;
    }

    private static void promise11GetDecoded() {
        CabacResidual x = twoBlocks();
        dueOutsideIsZero(x);
        Due.is("view while OPEN", Blocks.decoded(x), Blocks.text(Blocks.ZEROS));
        x.finish();
        Due.is("view after finish", Blocks.decoded(x), Blocks.text(Blocks.ZEROS));
        dueOutsideIsZero(x);
        for (int block = 1; block <= 2; block++) {
            x.decodeNext();
            for (int pos = 0; pos < 16; pos++) {
                Due.is("getDecoded(" + pos + ")", x.getDecoded(pos), Blocks.levels(block)[pos]);
            }
            dueOutsideIsZero(x);
        }
        x.rewind();
        Due.is("view after rewind", Blocks.decoded(x), Blocks.text(Blocks.ZEROS));
        x.decodeNext();
        x.reset();
        Due.is("view after reset", Blocks.decoded(x), Blocks.text(Blocks.ZEROS));
    }

    private static void dueOutsideIsZero(CabacResidual x) {
        for (int pos : Blocks.OUTSIDE_16) {
            Due.is("getDecoded(" + pos + ")", x.getDecoded(pos), 0);
        }
    }

    private static void promise12DecodedPlace() {
        CabacResidual x = twoBlocks();
        Due.is("decodedPlace() while OPEN", x.decodedPlace(), -1);
        x.finish();
        Due.is("decodedPlace() after finish", x.decodedPlace(), -1);
        x.decodeNext();
        Due.is("decodedPlace() of the first", x.decodedPlace(), 0);
        x.decodeNext();
        Due.is("decodedPlace() of the second", x.decodedPlace(), 15);
        x.decodeNext();
        Due.is("decodedPlace() past the end", x.decodedPlace(), 15);
        x.rewind();
        Due.is("decodedPlace() after rewind", x.decodedPlace(), -1);
        x.decodeNext();
        x.reset();
        Due.is("decodedPlace() after reset", x.decodedPlace(), -1);
    }

    private static void promise13DecodedCount() {
        CabacResidual x = twoBlocks();
        x.decodeNext();
        Due.is("decodedCount() while OPEN", x.decodedCount(), 0);
        x.finish();
        Due.is("decodedCount() after finish", x.decodedCount(), 0);
        int[] counts = {1, 2, 2, 2};
        for (int count : counts) {
            x.decodeNext();
            Due.is("decodedCount() after decodeNext", x.decodedCount(), count);
        }
        x.rewind();
        Due.is("decodedCount() after rewind", x.decodedCount(), 0);
        x.decodeNext();
        x.reset();
        Due.is("decodedCount() after reset", x.decodedCount(), 0);
    }

    private static void promise14BlockCount() {
        CabacResidual x = twoBlocks();
        Due.is("blockCount()", x.blockCount(), 2);
        x.commit(15);
        x.commit(16);
        Due.is("blockCount() after refusals", x.blockCount(), 2);
        x.commit(7);
        x.commit(8);
        Due.is("blockCount() when full", x.blockCount(), 4);
        x.commit(9);
        Due.is("blockCount() over full", x.blockCount(), 4);
        x.finish();
        x.decodeNext();
        x.rewind();
        Due.is("blockCount() while CLOSED", x.blockCount(), 4);
        x.reset();
        Due.is("blockCount() after reset", x.blockCount(), 0);
    }

    private static void promise15IsOpen() {
        CabacResidual x = twoBlocks();
        Due.is("isOpen() after commits", x.isOpen(), true);
        x.rewind();
        x.decodeNext();
        Due.is("isOpen() after refusals", x.isOpen(), true);
        x.finish();
        Due.is("isOpen() after finish", x.isOpen(), false);
        x.decodeNext();
        x.decodeNext();
        x.decodeNext();
        Due.is("isOpen() at the end", x.isOpen(), false);
        x.rewind();
        x.finish();
        Due.is("isOpen() after rewind", x.isOpen(), false);
        x.reset();
        Due.is("isOpen() after reset", x.isOpen(), true);
    }

    private static void promise16PlaceUsed() {
        CabacResidual x = twoBlocks();
        for (int place = 0; place < 16; place++) {
            Due.is("placeUsed(" + place + ")", x.placeUsed(place), place == 0 || place == 15);
        }
        for (int place : Blocks.OUTSIDE_16) {
            x.commit(place);
            Due.is("placeUsed(" + place + ")", x.placeUsed(place), false);
        }
        x.finish();
        x.decodeNext();
        x.commit(3);
        Due.is("used places while CLOSED", Blocks.usedPlaces(x), "0 15 ");
        x.rewind();
        Due.is("used places after rewind", Blocks.usedPlaces(x), "0 15 ");
        x.reset();
        Due.is("used places after reset", Blocks.usedPlaces(x), "");
        CabacResidual zero = new CabacResidual(1);
        zero.commit(6);
        zero.commit(7);
        Due.is("a zero block uses its place, a refused one doesn't", Blocks.usedPlaces(zero), "6 ");
    }

    private static void promise17Capacity() {
        for (int cap = 1; cap <= 6; cap++) {
            CabacResidual x = new CabacResidual(cap);
            for (int place = 0; place < 16; place++) {
                x.commit(place);
                Due.is("capacity() after commit", x.capacity(), cap);
            }
            Due.is("blockCount() when full", x.blockCount(), cap);
            x.finish();
            x.decodeNext();
            x.rewind();
            Due.is("capacity() while CLOSED", x.capacity(), cap);
            x.reset();
            Due.is("capacity() after reset", x.capacity(), cap);
        }
    }

    private static void gettersChangeNothing() {
        CabacResidual x = twoBlocks();
        Due.is("getters asked twice while OPEN", Blocks.all(x), Blocks.all(x));
        x.finish();
        x.decodeNext();
        String before = Blocks.all(x);
        for (int outside : Blocks.OUTSIDE_16) {
            x.getStaged(outside);
            x.getDecoded(outside);
            x.placeUsed(outside);
        }
        Due.is("getters asked twice while CLOSED", Blocks.all(x), before);
        Blocks.dueNext(x, 15, Blocks.levels(2));
    }
}
