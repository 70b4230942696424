/**
 * Objects that tests begin with: streams of a certain length, and blocks with just so much room.
 * Each loop has a bound, so that a wrong answer ends in a failed test and not in a long one.
 */
final class Made {
    private static final int FIXED = 1;
    private static final int MAX = Integer.MAX_VALUE;
    private static final int STREAM_BITS = 64 * 32;

    private Made() {
    }

    /** At depth 0; the writer's stream has n words, 3 to 64: one block. */
    static BitBlocks ofWords(int n) {
        BitBlocks x = new BitBlocks();
        x.enter(1, 2);
        for (int i = 0; i < 3 && n - x.words() > 22; i++) {
            longRecord(x);
        }
        for (int i = 0; i < 60 && x.words() < n; i++) {
            x.record(0, 2);
        }
        x.leave();
        Check.due("a stream of n words", x.words(), n);
        return x;
    }

    /** A PLAIN record with 16 values: the block's width and 684 more bits. */
    private static int longRecord(BitBlocks x) {
        for (int i = 0; i < 16; i++) {
            x.value(MAX);
        }
        return x.record(0, 2);
    }

    /** Opens blocks of id 2 and width 2 and inside them, at this depth, one of id 1. */
    static BitBlocks nested(int depth, int width) {
        BitBlocks x = new BitBlocks();
        for (int i = 1; i < depth; i++) {
            x.enter(2, 2);
        }
        x.enter(1, width);
        if (width > 2) {
            x.op(FIXED, 1);
            x.form();
            x.op(FIXED, 2);
            x.form();
        }
        return x;
    }

    /** How many bits nested() has written; they end with a part of a word if there are forms. */
    static int nestedBits(int depth, int width) {
        return 64 * depth + (width > 2 ? 2 * (width + 14) : 0);
    }

    /**
     * As nested() leaves it, but with records, so that so many bits more may be written before the
     * stream would be too long; for width 2 an even number. Where the width is 3 or more, the block
     * has the forms FIXED 1 and FIXED 2.
     */
    static BitBlocks withSpare(int depth, int width, int spare) {
        BitBlocks x = nested(depth, width);
        // Each outer LEAVE takes a word of its own, the inner one what the last record leaves.
        int most = STREAM_BITS - 32 * (depth - 1) - width;
        fill(x, width, most - nestedBits(depth, width) - spare);
        return x;
    }

    /** As nested() leaves it, but with records that end at this bit of a word. */
    static BitBlocks withEndAt(int depth, int width, int bit) {
        BitBlocks x = nested(depth, width);
        fill(x, width, endAfter(depth, bit) - nestedBits(depth, width));
        return x;
    }

    /** Where withEndAt() ends: the number of bits in the stream. */
    static int endAfter(int depth, int bit) {
        return 64 * depth + 160 + bit;
    }

    /** Writes just so many bits of records, 76 or more, into a block made by nested(). */
    private static void fill(BitBlocks x, int width, int bits) {
        int left = bits;
        for (int i = 0; i < 3 && left > 800; i++) {
            left -= longRecord(x);
        }
        left -= width > 2 ? fillByForms(x, width, left) : fillByPlain(x, left);
        Check.due("just so many bits", left, 0);
    }

    private static int fillByForms(BitBlocks x, int width, int bits) {
        int done = 0;
        for (int i = 0; i < 20 && bits - done > 150; i++) {
            done += x.record(MAX, 2);
        }
        int odd = (bits - done) % (width + 1);
        for (int i = 0; i < odd; i++) {
            done += x.record(i % 4, 5);
        }
        for (int i = 0; done < bits && i < 50; i++) {
            done += x.record(1, 4);
        }
        return done;
    }

    /** PLAIN records without values, with codes in 1 to 7 chunks, take 14, 20, .. 50 bits. */
    private static int fillByPlain(BitBlocks x, int bits) {
        int count = bits / 2 % 3;
        while (count == 0 || 50 * count < bits) {
            count += 3;
        }
        int more = (bits - 14 * count) / 6;
        int done = 0;
        for (int i = 0; i < count; i++) {
            int chunks = Math.min(6, more);
            more -= chunks;
            done += x.record(1 << 5 * chunks, 2);
        }
        return done;
    }
}
