import java.util.function.Consumer;

/**
 * "A call that throws or is refused changes nothing, but where something else is said": each refusal
 * of each call, beside an object that was not called.
 */
public final class RefusalTest {
    private static final int LITERAL = 0;
    private static final int FIXED = 1;
    private static final int ROW = 3;
    private static final int MAX = Integer.MAX_VALUE;
    private static final int MIN = Integer.MIN_VALUE;

    public static void main(String[] args) {
        enter();
        leave();
        op();
        value();
        form();
        formInInfo();
        record();
        recordInInfo();
        copy();
        load();
        alter();
        next();
        looks();
        Check.end();
    }

    private static void ops(BitBlocks x, int count) {
        for (int i = 0; i < count; i++) {
            x.op(FIXED, 3 + i);
        }
    }

    private static void values(BitBlocks x, int count) {
        for (int i = 0; i < count; i++) {
            x.value(1 + i);
        }
    }

    private static void prepare(BitBlocks x) {
        ops(x, 2);
        values(x, 3);
    }

    private static void blocks(BitBlocks x, int depth) {
        for (int i = 0; i < depth; i++) {
            x.enter(1, 3 + i % 3);
        }
    }

    /** An INFO block with a target for which so many forms are kept. */
    private static void info(BitBlocks x, int width, int target, int forms) {
        x.enter(0, width);
        x.value(target);
        x.record(1, 2);
        for (int i = 0; i < forms; i++) {
            x.op(FIXED, 1 + i);
            x.form();
        }
    }

    /** A block that takes the stream's words up to n, from one that has none yet. */
    private static void words(BitBlocks x, int n) {
        x.enter(2, 2);
        for (int turn = 0; turn < 2; turn++) {
            for (int i = 0; i < 16; i++) {
                x.value(MAX);
            }
            x.record(0, 2);
        }
        for (int i = 0; i < 60 && x.words() < n; i++) {
            x.record(0, 2);
        }
        x.leave();
        Check.due("words", x.words(), n);
    }

    private static void enter() {
        Consumer<BitBlocks> some = x -> {
            blocks(x, 2);
            prepare(x);
        };
        Twins.unchanged("2: id -1", some, -1, x -> x.enter(-1, 3));
        Twins.unchanged("2: id 64", some, -1, x -> x.enter(64, 3));
        Twins.unchanged("2: width 1", some, -1, x -> x.enter(1, 1));
        Twins.unchanged("2: width 9", some, -1, x -> x.enter(1, 9));
        Twins.unchanged("2: depth 6", x -> {
            blocks(x, 6);
            prepare(x);
        }, -2, x -> x.enter(1, 3));
        Twins.unchanged("2: in INFO", x -> {
            info(x, 3, 1, 2);
            prepare(x);
        }, -3, x -> x.enter(1, 3));
        Twins.unchanged("2: no room", x -> {
            words(x, 62);
            prepare(x);
        }, -4, x -> x.enter(1, 3));
        Twins.unchanged("2: no room for an INFO", x -> {
            words(x, 59);
            x.enter(1, 3);
            x.record(5, 2);
            prepare(x);
        }, -4, x -> x.enter(0, 8));
    }

    private static void leave() {
        Twins.unchanged("3: nothing is open", x -> prepare(x), -1, x -> x.leave());
        Twins.unchanged("3: all are left", x -> {
            info(x, 2, 1, 2);
            x.leave();
            prepare(x);
        }, -1, x -> x.leave());
    }

    private static void op() {
        int[][] none = {{-1, 0}, {4, 0}, {LITERAL, -1}, {FIXED, 0}, {FIXED, 32}, {2, 1}, {2, 32}};
        for (int[] op : none) {
            for (int count = 0; count <= 8; count += 4) {
                int prepared = count;
                Twins.unchanged("4: no op, " + prepared + " prepared", x -> {
                    blocks(x, 1);
                    ops(x, prepared);
                }, -1, x -> x.op(op[0], op[1]));
            }
        }
        for (int kind = LITERAL; kind <= ROW; kind++) {
            int ninth = kind;
            Twins.unchanged("4: a ninth", x -> {
                blocks(x, 1);
                ops(x, 8);
            }, -2, x -> x.op(ninth, 2));
        }
    }

    private static void value() {
        for (int count = 0; count <= 16; count += 8) {
            int prepared = count;
            Consumer<BitBlocks> past = x -> {
                blocks(x, 1);
                values(x, prepared);
            };
            Twins.unchanged("5: value -1, " + prepared + " prepared", past, -1, x -> x.value(-1));
            Twins.unchanged("5: the smallest value", past, -1, x -> x.value(MIN));
        }
        Twins.unchanged("5: a 17th", x -> {
            blocks(x, 1);
            values(x, 16);
        }, -2, x -> x.value(7));
    }

    private static void form() {
        Twins.unchanged("7: depth 0", x -> prepare(x), -1, x -> x.form());
        Twins.unchanged("7: no ops", x -> {
            blocks(x, 1);
            values(x, 3);
        }, -2, x -> x.form());
        Twins.unchanged("7: no form", x -> {
            blocks(x, 1);
            prepare(x);
            x.op(ROW, 0);
        }, -2, x -> x.form());
        Twins.unchanged("7: eight forms", x -> {
            blocks(x, 1);
            for (int i = 0; i < 8; i++) {
                ops(x, 1);
                x.form();
            }
            prepare(x);
        }, -4, x -> x.form());
        Twins.unchanged("7: no room", x -> {
            words(x, 61);
            x.enter(1, 3);
            prepare(x);
            ops(x, 1);
        }, -5, x -> x.form());
    }

    private static void formInInfo() {
        Twins.unchanged("7: no target", x -> {
            x.enter(0, 3);
            prepare(x);
        }, -3, x -> x.form());
        Twins.unchanged("7: eight kept forms", x -> {
            info(x, 3, 1, 8);
            prepare(x);
        }, -4, x -> x.form());
        // There is room for a block behind the INFO, which shows what is kept.
        Twins.unchanged("7: no room in INFO", x -> {
            words(x, 51);
            info(x, 3, 1, 1);
            for (int i = 0; i < 8; i++) {
                x.op(LITERAL, MAX);
            }
        }, -5, x -> x.form());
    }

    private static void record() {
        Twins.unchanged("8: depth 0", x -> prepare(x), -1, x -> x.record(1, 2));
        Consumer<BitBlocks> some = x -> {
            blocks(x, 2);
            ops(x, 1);
            x.form();
            prepare(x);
        };
        Twins.unchanged("8: code -1", some, -1, x -> x.record(-1, 2));
        Twins.unchanged("8: the smallest code", some, -1, x -> x.record(MIN, 4));
        for (int number : new int[] {MIN, -1, 0, 1, 3, 5, 12, MAX}) {
            Twins.unchanged("8: no form " + number, some, -2, x -> x.record(1, number));
        }
        Twins.unchanged("8: not below 4", x -> {
            x.enter(1, 2);
            ops(x, 1);
            x.form();
            prepare(x);
        }, -2, x -> x.record(1, 4));
        Twins.unchanged("8: does not fit", some, -3, x -> x.record(1, 4));
        Twins.unchanged("8: no room", x -> {
            words(x, 61);
            x.enter(1, 3);
            prepare(x);
        }, -5, x -> x.record(1, 2));
        Twins.unchanged("8: no room by a form", x -> {
            words(x, 61);
            x.enter(1, 3);
            x.op(FIXED, 31);
            x.form();
            ops(x, 2);
        }, -5, x -> x.record(1, 4));
    }

    private static void recordInInfo() {
        for (int target = 0; target <= 1; target++) {
            int forms = 2 * target;
            Consumer<BitBlocks> past = x -> {
                x.enter(0, 3);
                if (forms > 0) {
                    x.leave();
                    info(x, 3, 1, forms);
                }
                ops(x, 1);
            };
            Twins.unchanged("8: no value in INFO", past, -3, x -> x.record(1, 2));
            Twins.unchanged("8: a form in INFO", past, -2, x -> x.record(1, 4));
            for (int value : new int[] {0, 64, MAX}) {
                Twins.unchanged("8: value " + value + " in INFO", past.andThen(x -> x.value(value)),
                        -3, x -> x.record(1, 2));
            }
            Twins.unchanged("8: code 0 in INFO", past.andThen(x -> x.value(2)), -3,
                    x -> x.record(0, 2));
            Twins.unchanged("8: code 2 in INFO", past.andThen(x -> x.value(2)), -3,
                    x -> x.record(2, 2));
            Twins.unchanged("8: two values in INFO", past.andThen(x -> values(x, 2)), -3,
                    x -> x.record(1, 2));
        }
        // There is room for another form, whose number shows which target it is kept for.
        Twins.unchanged("8: no room in INFO", x -> {
            words(x, 60);
            info(x, 3, 1, 1);
            ops(x, 1);
            x.value(32);
        }, -5, x -> x.record(1, 2));
    }

    /** The reader has words of its own: INFO keeps two forms for id 1, a block of id 1 uses them. */
    private static void readerPast(BitBlocks x) {
        info(x, 2, 1, 2);
        x.leave();
        x.enter(1, 3);
        x.record(1, 4);
        x.record(3, 5);
        x.leave();
        x.copy();
        x.clear();
    }

    /** The reader stands behind its n-th next(): the ninth reads the last LEAVE. */
    private static Consumer<BitBlocks> readerAt(int n) {
        return x -> {
            readerPast(x);
            for (int i = 0; i < n; i++) {
                Check.next(x);
            }
        };
    }

    /** The reader has found the last LEAVE faulty, by the block's length. */
    private static void readerWithFault(BitBlocks x) {
        readerPast(x);
        x.alter(5, 2);
        for (int i = 0; i < 10; i++) {
            Check.next(x);
        }
        Check.due("a fault", Check.next(x), Check.STATE);
    }

    private static void copy() {
        for (int n = 0; n <= 10; n++) {
            for (int depth = 1; depth <= 6; depth += 5) {
                int open = depth;
                Twins.unchanged("13: depth " + open, readerAt(n).andThen(x -> blocks(x, open)), -1,
                        x -> x.copy());
            }
        }
        Consumer<BitBlocks> faulty = RefusalTest::readerWithFault;
        Twins.unchanged("13: a fault stays", faulty.andThen(x -> blocks(x, 1)), -1, x -> x.copy());
    }

    private static void load() {
        for (int n = 0; n <= 10; n++) {
            int calls = n;
            Twins.unchanged("14: 64 words", x -> {
                readerPast(x);
                fillUp(x);
                for (int i = 0; i < calls; i++) {
                    Check.next(x);
                }
            }, -1, x -> x.load(0));
        }
        // Behind the last LEAVE stands a word that is no ENTER.
        Twins.unchanged("14: a fault stays", x -> {
            readerPast(x);
            fillUp(x);
            for (int i = 0; i < 10; i++) {
                Check.next(x);
            }
            Check.due("a fault", Check.next(x), Check.STATE);
        }, -1, x -> x.load(1));
    }

    private static void fillUp(BitBlocks x) {
        int words = 0;
        for (int i = 0; i < 64 && words < 64; i++) {
            words = x.load(0);
        }
    }

    private static void alter() {
        for (int i : new int[] {MIN, -1, 7, 8, 63, 64, MAX}) {
            for (int n = 0; n <= 10; n++) {
                Twins.unchanged("15: no word " + i, readerAt(n), 0, x -> x.alter(i, 7) ? 1 : 0);
            }
            Twins.unchanged("15: a fault stays", RefusalTest::readerWithFault, 0,
                    x -> x.alter(i, 7) ? 1 : 0);
        }
        Twins.unchanged("15: no words", x -> prepare(x), 0, x -> x.alter(0, 7) ? 1 : 0);
    }

    /** Behind the first exception the second one, and 0 at the end, leave all as it is. */
    private static void next() {
        Twins.unchanged("18: a fault again", RefusalTest::readerWithFault, Check.STATE,
                x -> Check.next(x));
        Twins.unchanged("18: the end again", readerAt(10), 0, x -> Check.next(x));
        Twins.unchanged("18: no words", x -> prepare(x), 0, x -> Check.next(x));
    }

    /** Calls that only look at something: the object is as it was, and they answer the same again. */
    private static void looks() {
        for (int n = 0; n <= 10; n++) {
            Consumer<BitBlocks> past = readerAt(n).andThen(x -> {
                blocks(x, 2);
                prepare(x);
            });
            Twins.unchanged("9, 10, 11, 19, 20: looks", past, 0, x -> looked(x) - looked(x));
        }
        Twins.unchanged("9, 10, 11, 19, 20: looks", RefusalTest::readerWithFault, 0,
                x -> looked(x) - looked(x));
    }

    private static long looked(BitBlocks x) {
        long seen = x.words();
        seen = seen * 31 + x.depth();
        seen = seen * 31 + x.level();
        for (int i : new int[] {MIN, -1, 0, 1, 2, 3, 19, 63, 64, MAX}) {
            seen = seen * 31 + x.word(i);
            seen = seen * 31 + x.info(i);
        }
        return seen;
    }
}
