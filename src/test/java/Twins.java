import java.util.ArrayList;
import java.util.List;
import java.util.function.Consumer;
import java.util.function.ToLongFunction;

/** Two objects that must answer alike from here on, whatever was done to one of them. */
final class Twins {
    private Twins() {
    }

    /**
     * Gives two new objects the same past, calls one of them, which must answer as is due, and looks
     * whether that left a trace.
     */
    static void unchanged(String what, Consumer<BitBlocks> past, long due,
            ToLongFunction<BitBlocks> call) {
        BitBlocks called = new BitBlocks();
        BitBlocks other = new BitBlocks();
        past.accept(called);
        past.accept(other);
        Check.due(what, call.applyAsLong(called), due);
        alike(what, called, other);
    }

    /** Both have at most some 200 calls behind them: 512 are allowed. */
    static void alike(String what, BitBlocks one, BitBlocks other) {
        List<Long> got = trace(one);
        List<Long> want = trace(other);
        for (int i = 0; i < want.size(); i++) {
            Check.due(what + ": answer " + i + " behind it", got.get(i), want.get(i));
        }
    }

    /** Answers that depend on all that an object holds. */
    private static List<Long> trace(BitBlocks x) {
        List<Long> seen = new ArrayList<>();
        seen.add((long) x.words());
        seen.add((long) x.depth());
        seen.add((long) x.level());
        for (int i = 0; i < 20; i++) {
            seen.add((long) x.info(i));
        }
        read(x, 4, seen);
        prepared(x, seen);
        for (int i = 0; i < 6; i++) {
            seen.add((long) x.leave());
        }
        // What is prepared outside of all blocks shows only here.
        seen.add((long) x.enter(1, 8));
        prepared(x, seen);
        seen.add((long) x.leave());
        for (int i = 0; i < 64; i++) {
            seen.add((long) x.word(i));
        }
        seen.add((long) x.wipe());
        seen.add((long) x.copy());
        read(x, 8, seen);
        return seen;
    }

    private static void read(BitBlocks x, int times, List<Long> seen) {
        for (int i = 0; i < times; i++) {
            seen.add(Check.next(x));
            seen.add((long) x.info(0));
            seen.add((long) x.info(1));
            seen.add((long) x.info(3));
            seen.add((long) x.level());
        }
    }

    /** Writes what is prepared, and tells the forms of this block by what fits them. */
    private static void prepared(BitBlocks x, List<Long> seen) {
        seen.add((long) x.form());
        seen.add((long) x.record(3, 4));
        seen.add((long) x.record(1, 2));
        seen.add((long) x.value(1));
        seen.add((long) x.op(3, 0));
        seen.add((long) x.op(2, 2));
        seen.add((long) x.form());
        for (int form = 4; form < 12; form++) {
            seen.add((long) x.record(1, form));
        }
    }
}
