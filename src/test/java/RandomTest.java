import java.util.Random;

/**
 * Runs of random calls, always the same ones: every answer is the model's, and nothing is thrown
 * but what the document says.
 */
public final class RandomTest {
    private static final int RUNS = 12000;
    // An object is used for at most so many calls.
    private static final int CALLS = 512;
    private static final int[] ODD = {Integer.MIN_VALUE, -5, -1, 0, 1, 2, 3, 4, 8, 9, 31, 32, 63,
        64, 255, 1 << 30, Integer.MAX_VALUE};
    // How the numbers of answers came about: a test of the test.
    private static final long[] SEEN = new long[64];

    private final Random random;
    private final int run;
    private final BitBlocks x = new BitBlocks();
    private final Model model = new Model();
    private int left = CALLS;

    private RandomTest(int run) {
        this.run = run;
        this.random = new Random(run);
    }

    public static void main(String[] args) {
        for (int run = 0; run < RUNS && Check.isAllRight(); run++) {
            new RandomTest(run).go();
        }
        everythingWasMet();
        Check.end();
    }

    /** Whether a call is left; if so, it is taken. */
    private boolean mayCall() {
        left--;
        return left >= 0;
    }

    private boolean goesOn() {
        return left > 0 && Check.isAllRight();
    }

    private void go() {
        int wildness = run % 4;
        // Some runs read only what they have written up to the end of the stream.
        int reads = run / 12 % 3 == 0 ? 90 : 20;
        while (goesOn()) {
            if (random.nextInt(100) < wildness) {
                wildCall();
            } else if (random.nextInt(reads) == 0) {
                readAll();
            } else {
                writerCall(run / 4 % 3);
            }
            look();
        }
    }

    private int odd() {
        return ODD[random.nextInt(ODD.length)];
    }

    private int small(int bound) {
        return random.nextInt(bound);
    }

    private int anyNumber() {
        return random.nextInt(3) == 0 ? random.nextInt() >>> 1 + small(31) : small(20);
    }

    private void due(String call, long got, long want, int slot) {
        Check.due("run " + run + ": " + call, got, want);
        if (slot >= 0) {
            SEEN[slot + (int) Math.min(5, Math.max(0, -want))]++;
        }
    }

    private void enter(int id, int width) {
        if (mayCall()) {
            due("enter(" + id + ", " + width + ")", x.enter(id, width), model.enter(id, width), 0);
        }
    }

    private void leave() {
        if (mayCall()) {
            due("leave()", x.leave(), model.leave(), 6);
        }
    }

    private void op(int kind, int v) {
        if (mayCall()) {
            due("op(" + kind + ", " + v + ")", x.op(kind, v), model.op(kind, v), 12);
        }
    }

    private void value(int v) {
        if (mayCall()) {
            due("value(" + v + ")", x.value(v), model.value(v), 18);
        }
    }

    private void form() {
        if (mayCall()) {
            due("form()", x.form(), model.form(), 24);
        }
    }

    private void record(int code, int form) {
        if (mayCall()) {
            due("record(" + code + ", " + form + ")", x.record(code, form),
                    model.record(code, form), 30);
        }
    }

    private void copy() {
        if (mayCall()) {
            due("copy()", x.copy(), model.copy(), 36);
        }
    }

    private void load(int word) {
        if (mayCall()) {
            due("load(" + word + ")", x.load(word), model.load(word), 42);
        }
    }

    private void alter(int i, int word) {
        if (mayCall()) {
            due("alter(" + i + ", " + word + ")", x.alter(i, word) ? 1 : 0,
                    model.alter(i, word) ? 1 : 0, -1);
        }
    }

    private void wipe() {
        if (mayCall()) {
            due("wipe()", x.wipe(), model.wipe(), -1);
        }
    }

    private void drop() {
        if (mayCall()) {
            x.drop();
            model.drop();
        }
    }

    private void clear() {
        if (mayCall()) {
            x.clear();
            model.clear();
        }
    }

    private void rewind() {
        if (mayCall()) {
            x.rewind();
            model.rewind();
        }
    }

    private void word(int i) {
        if (mayCall()) {
            due("word(" + i + ")", x.word(i), model.word(i), -1);
        }
    }

    private void info(int i) {
        if (mayCall()) {
            due("info(" + i + ")", x.info(i), model.info(i), -1);
        }
    }

    /** What next() answered. */
    private long next() {
        if (!mayCall()) {
            return 0;
        }
        long want = model.next();
        due("next()", Check.next(x), want, -1);
        SEEN[48 + (want == Check.ARGUMENT ? 5 : want == Check.STATE ? 6 : (int) want)]++;
        return want;
    }

    /** Looks at one thing, so that most calls are left for others. */
    private void look() {
        int choice = small(5);
        if (choice == 0) {
            word(small(68) - 2);
        } else if (choice == 1) {
            info(small(24) - 2);
        } else if (mayCall()) {
            if (choice == 2) {
                due("words()", x.words(), model.words(), -1);
            } else if (choice == 3) {
                due("depth()", x.depth(), model.depth(), -1);
            } else {
                due("level()", x.level(), model.level(), -1);
            }
        }
    }

    private void writerCall(int style) {
        int choice = small(style == 0 ? 30 : style == 1 ? 20 : 40);
        if (choice < 3) {
            enter(small(4) == 0 ? 0 : 1 + small(small(3) == 0 ? 63 : 2), 2 + small(7));
        } else if (choice < 5) {
            leave();
        } else if (choice < 9) {
            opsAndForm();
        } else if (choice < 16) {
            valuesAndRecord();
        } else if (choice < 18) {
            fittingRecord();
        } else if (choice == 18) {
            target();
        } else if (choice == 19 && small(20) == 0) {
            clear();
        } else if (choice > 25) {
            record(small(3), 2);
        }
    }

    private void opsAndForm() {
        if (small(5) > 0) {
            drop();
        }
        int count = small(3) > 0 ? 1 + small(3) : small(10);
        for (int i = 0; i < count; i++) {
            int kind = small(3);
            op(kind, kind == 0 ? anyNumber() : 1 + small(small(2) == 0 ? 31 : 6));
        }
        if (small(2) == 0) {
            op(3, odd());
            op(1 + small(2), 2 + small(30));
        }
        form();
    }

    private void valuesAndRecord() {
        int count = small(4) > 0 ? small(4) : small(18);
        for (int i = 0; i < count; i++) {
            value(anyNumber());
        }
        record(anyNumber(), small(3) == 0 ? 2 : 4 + small(5));
        if (small(3) > 0) {
            drop();
        }
    }

    /** Goes through small numbers, some of which fit the forms. */
    private void fittingRecord() {
        drop();
        int form = 4 + small(3);
        for (int count = 0; count < 5; count++) {
            for (int code = 0; code < 3; code++) {
                record(code, form);
            }
            value(small(2));
        }
    }

    private void target() {
        drop();
        value(1 + small(small(3) == 0 ? 63 : 3));
        record(1, 2);
    }

    private void wildCall() {
        switch (small(13)) {
            case 0:
                enter(odd(), odd());
                break;
            case 1:
                op(small(5) - 1, odd());
                break;
            case 2:
                value(odd());
                break;
            case 3:
                record(odd(), odd());
                break;
            case 4:
                alter(odd(), odd());
                break;
            case 5:
                load(random.nextInt());
                break;
            case 6:
                word(odd());
                info(odd());
                break;
            case 7:
                wipe();
                break;
            case 8:
                fullLoad();
                break;
            case 9:
                rewind();
                break;
            case 10:
                copy();
                break;
            default:
                next();
        }
    }

    private void fullLoad() {
        for (int i = 0; i < 66; i++) {
            load(model.word(i));
        }
    }

    /** Leaves all blocks, carries the stream to the reader, and reads it, whole and altered. */
    private void readAll() {
        if (small(3) > 0) {
            for (int i = 0; i < 7; i++) {
                leave();
            }
        }
        copy();
        for (int turn = small(6); turn < 6 && goesOn(); turn++) {
            readOn();
            alterSomething();
        }
        readOn();
        if (small(2) == 0) {
            clear();
        }
    }

    private void readOn() {
        while (goesOn()) {
            long answer = next();
            look();
            info(small(4));
            if (answer == 0 || answer == Check.STATE) {
                return;
            }
        }
    }

    private void alterSomething() {
        int size = model.streamSize();
        int i = small(Math.max(1, size));
        int word = model.streamWord(i);
        switch (small(6)) {
            case 0:
                alter(i, random.nextInt());
                break;
            case 1:
                alter(i, word + small(5) - 2);
                break;
            case 2:
                // Takes the last words away: the stream ends too early.
                shorten(size - 1 - small(2));
                break;
            case 3:
                alter(i, word ^ 1 << small(32) ^ 1 << small(32));
                break;
            default:
                alter(i, word ^ 1 << small(32));
        }
    }

    private void shorten(int size) {
        int[] words = new int[Math.max(0, size)];
        for (int i = 0; i < words.length; i++) {
            words[i] = model.streamWord(i);
        }
        wipe();
        for (int word : words) {
            load(word);
        }
    }

    private static void everythingWasMet() {
        // enter 0 .. -4, leave, op, value, form 0 .. -5, record, copy, load, next.
        int[] slots = {0, 1, 2, 3, 4, 6, 7, 12, 13, 14, 18, 19, 20, 24, 25, 26, 27, 28, 29, 30, 31, 32,
            33, 35, 36, 37, 42, 43, 48, 49, 50, 51, 52, 53, 54};
        if (!Check.isAllRight()) {
            return;
        }
        for (int slot : slots) {
            Check.due("the random runs met kind " + slot + " often", SEEN[slot] > 20, true);
        }
    }
}
