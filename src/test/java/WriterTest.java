/** Promises 1 to 12: what the writer answers, and the bits that it writes. */
public final class WriterTest {
    private static final int LITERAL = 0;
    private static final int FIXED = 1;
    private static final int CHUNKED = 2;
    private static final int ROW = 3;
    private static final int MAX = Integer.MAX_VALUE;
    private static final int MIN = Integer.MIN_VALUE;

    public static void main(String[] args) {
        promise1();
        promise2Bits();
        promise2Refusals();
        promise2Room();
        promise3();
        promise4();
        promise5();
        promise6();
        promise7Bits();
        promise7Refusals();
        promise7RowsOfOps();
        promise7Room();
        promise7Info();
        promise8Plain();
        promise8Forms();
        promise8Rows();
        promise8Refusals();
        promise8Room();
        promise8RoomOfOuterBlocks();
        promise8Info();
        promise9And10();
        promise11();
        promise12();
        Check.end();
    }

    private static void promise1() {
        BitBlocks x = new BitBlocks();
        Check.due("1: words()", x.words(), 0);
        Check.due("1: word(0)", x.word(0), 0);
        Check.due("1: depth()", x.depth(), 0);
        Check.due("1: level()", x.level(), 0);
        Check.infoDue("1", x);
        Check.due("1: wipe()", x.wipe(), 0);
        Check.nextDue("1", x, 0, 0);
        Check.due("1: copy()", x.copy(), 0);
        Check.due("1: the first op", x.op(ROW, 0), 1);
        Check.due("1: the first value", x.value(0), 1);
        for (int id = 1; id < 64; id++) {
            if (id % 20 == 0) {
                x.clear();
            }
            Check.due("1: enter " + id, x.enter(id, 3), 0);
            Check.due("1: no form is kept", x.record(0, 4), -2);
            Check.due("1: leave " + id, x.leave(), 1);
        }
    }

    private static void promise2Bits() {
        BitBlocks x = new BitBlocks();
        Check.due("2: enter(5, 4)", x.enter(5, 4), 0);
        Check.streamDue("2: depth 0", x, "10 101000 0010 / #0");
        Check.due("2: enter(63, 8)", x.enter(63, 8), 0);
        Check.streamDue("2: depth 1", x, "10 101000 0010 / #0 1000 111111 100000 0001 1000 / #0");
        Check.due("2: enter(0, 2)", x.enter(0, 2), 0);
        Check.streamDue("2: depth 2", x, "10 101000 0010 / #0 1000 111111 100000 0001 1000 / #0 "
                + "10000000 000000 0100 / #0");
    }

    private static void promise2Refusals() {
        int[][] heads = {{-1, 2}, {64, 2}, {MAX, 2}, {MIN, 2}, {0, 1}, {0, 9}, {0, 0}, {0, -1},
            {63, MAX}, {63, MIN}};
        BitBlocks x = new BitBlocks();
        for (int depth = 0; depth <= 6; depth++) {
            for (int[] head : heads) {
                Check.due("2: no such head", x.enter(head[0], head[1]), -1);
            }
            Check.due("2: depth", x.depth(), depth);
            Check.due("2: enter", x.enter(1, 2), depth < 6 ? 0 : -2);
        }
        Check.due("2: words are left as they were", x.words(), 12);

        BitBlocks deep = new BitBlocks();
        for (int i = 0; i < 5; i++) {
            deep.enter(1, 2);
        }
        Check.due("2: INFO at depth 6", deep.enter(0, 2), 0);
        Check.due("2: depth 6 comes before INFO", deep.enter(1, 2), -2);
        Check.due("2: the head comes before depth 6", deep.enter(64, 2), -1);

        BitBlocks info = new BitBlocks();
        info.enter(0, 2);
        Check.due("2: in INFO", info.enter(1, 2), -3);
        Check.due("2: INFO in INFO", info.enter(0, 2), -3);
        Check.due("2: the head comes before INFO", info.enter(1, 1), -1);
        Check.streamDue("2: nothing is written", info, "10 000000 0100 / #0");

        BitBlocks full = Made.ofWords(61);
        Check.due("2: INFO up to the end", full.enter(0, 2), 0);
        Check.due("2: INFO comes before the room", full.enter(1, 2), -3);
    }

    private static void promise2Room() {
        BitBlocks last = Made.ofWords(61);
        Check.due("2: just room enough", last.enter(1, 2), 0);
        Check.due("2: no room inside", last.enter(1, 2), -4);
        Check.due("2: words", last.words(), 63);
        Check.due("2: leave", last.leave(), 1);
        Check.due("2: words at the end", last.words(), 64);
        Check.due("2: the stream is full", last.enter(1, 2), -4);

        BitBlocks over = Made.ofWords(62);
        Check.due("2: a word too few", over.enter(1, 2), -4);
        Check.due("2: words", over.words(), 62);
        Check.due("2: nothing is written", over.word(62), 0);
        Check.due("2: depth", over.depth(), 0);

        // Each of three nested blocks takes two words, and one word for its LEAVE.
        BitBlocks nested = Made.ofWords(55);
        for (int i = 0; i < 3; i++) {
            Check.due("2: nested", nested.enter(1, 2), 0);
        }
        Check.due("2: no room for the fourth", nested.enter(1, 2), -4);
        for (int i = 0; i < 3; i++) {
            Check.due("2: leave", nested.leave(), 1 + 3 * i);
        }
        Check.due("2: words of three", nested.words(), 64);

        // What stands before it in its word makes the ENTER one word longer: 25 + 3 + 6 + 4 bits.
        BitBlocks split = Made.ofWords(58);
        split.enter(1, 3);
        split.op(FIXED, 1);
        split.form();
        split.record(0, 4);
        split.record(0, 4);
        Check.due("2: words", split.words(), 61);
        Check.due("2: the ENTER takes a part of the next word", split.enter(1, 2), -4);
        Check.due("2: words are as they were", split.words(), 61);
        Check.due("2: none of it is left", split.word(61), 0);
        Check.due("2: leave", split.leave(), 1);

        BitBlocks whole = Made.ofWords(58);
        whole.enter(1, 3);
        whole.op(FIXED, 1);
        whole.form();
        Check.due("2: the ENTER ends in its word", whole.enter(1, 2), 0);
        Check.due("2: leave", whole.leave(), 1);
        Check.due("2: leave", whole.leave(), 4);
        Check.due("2: words", whole.words(), 64);
    }

    private static void promise3() {
        BitBlocks x = new BitBlocks();
        Check.due("3: depth 0", x.leave(), -1);
        Check.due("3: nothing is written", x.words(), 0);
        x.enter(1, 3);
        Check.due("3: an empty block", x.leave(), 1);
        Check.streamDue("3: an empty block", x, "10 100000 1100 / #1 000 /");
        Check.due("3: depth 0 again", x.leave(), -1);
        x.enter(2, 2);
        x.record(0, 2);
        x.record(0, 2);
        Check.due("3: 30 bits are one word", x.leave(), 1);
        x.enter(2, 2);
        x.record(0, 2);
        x.record(32, 2);
        Check.due("3: 36 bits are two", x.leave(), 2);
        x.clear();
        x.enter(3, 8);
        x.enter(4, 2);
        Check.due("3: the inner one", x.leave(), 1);
        Check.due("3: the outer one", x.leave(), 4);
        Check.streamDue("3: both", x,
                "10 110000 0001 1000 / #4 10000000 001000 0100 / #1 00 / 00000000 /");
    }

    private static void promise4() {
        int[][] none = {{4, 0}, {-1, 0}, {MAX, 1}, {MIN, 1}, {LITERAL, -1}, {LITERAL, MIN},
            {FIXED, 0}, {FIXED, 32}, {FIXED, -1}, {FIXED, MAX}, {CHUNKED, 1}, {CHUNKED, 32},
            {CHUNKED, 0}, {CHUNKED, MIN}};
        int[][] ops = {{LITERAL, 0}, {LITERAL, MAX}, {FIXED, 1}, {FIXED, 31}, {CHUNKED, 2},
            {CHUNKED, 31}, {ROW, MIN}, {ROW, MAX}};
        BitBlocks x = new BitBlocks();
        for (int[] op : none) {
            Check.due("4: no op " + op[0] + ", " + op[1], x.op(op[0], op[1]), -1);
        }
        for (int i = 0; i < ops.length; i++) {
            Check.due("4: op " + ops[i][0] + ", " + ops[i][1], x.op(ops[i][0], ops[i][1]), i + 1);
        }
        for (int[] op : ops) {
            Check.due("4: a ninth op", x.op(op[0], op[1]), -2);
        }
        for (int[] op : none) {
            Check.due("4: no op comes first", x.op(op[0], op[1]), -1);
        }
    }

    private static void promise5() {
        BitBlocks x = new BitBlocks();
        Check.due("5: -1", x.value(-1), -1);
        Check.due("5: the smallest", x.value(MIN), -1);
        for (int i = 1; i <= 16; i++) {
            Check.due("5: a value", x.value(i % 2 == 0 ? 0 : MAX), i);
        }
        Check.due("5: a 17th", x.value(0), -2);
        Check.due("5: -1 comes first", x.value(-1), -1);
        x.enter(1, 2);
        Check.due("5: all are written", x.record(0, 2), 14 + 8 * 42 + 8 * 6);
        Check.due("5: the first again", x.value(0), 1);
    }

    private static void promise6() {
        BitBlocks x = new BitBlocks();
        x.drop();
        x.op(FIXED, 3);
        x.op(FIXED, 3);
        x.value(1);
        x.value(1);
        x.drop();
        Check.due("6: an op", x.op(FIXED, 3), 1);
        Check.due("6: a value", x.value(7), 1);
        x.drop();
        x.enter(1, 3);
        Check.due("6: no ops", x.form(), -2);
        Check.due("6: no values", x.record(0, 2), 15);
        x.op(FIXED, 3);
        Check.due("6: a form", x.form(), 4);
        x.drop();
        Check.due("6: forms stay", x.record(7, 4), 6);
        Check.due("6: the depth stays", x.depth(), 1);
    }

    private static void promise7Bits() {
        BitBlocks x = new BitBlocks();
        x.enter(1, 2);
        x.op(LITERAL, 5);
        x.op(FIXED, 31);
        x.op(ROW, 99);
        x.op(CHUNKED, 2);
        Check.due("7: a form", x.form(), 4);
        Check.streamDue("7: a form", x, "10 100000 0100 / #0 11 00100 1 10100000 "
                + "0 100 11111 10000 0 110 0 010 01000");
        Check.due("7: its ops are prepared no more", x.form(), -2);
        x.value(3);
        x.op(LITERAL, 128);
        Check.due("7: another", x.form(), 5);
        Check.due("7: values stay prepared", x.value(4), 2);
        Check.streamDue("7: two forms", x, "10 100000 0100 / #0 11 00100 1 10100000 "
                + "0 100 11111 10000 0 110 0 010 01000 11 10000 1 00000001 10000000");
        for (int i = 0; i < 8; i++) {
            x.op(LITERAL, 0);
        }
        Check.due("7: eight ops", x.form(), 6);
        x.clear();
        x.enter(1, 4);
        for (int i = 0; i < 8; i++) {
            x.op(CHUNKED, 16);
        }
        Check.due("7: eight ops", x.form(), 4);
        StringBuilder eight = new StringBuilder("10 100000 0010 / #0 1100 00010");
        for (int i = 0; i < 8; i++) {
            eight.append(" 0 010 0000110000");
        }
        Check.streamDue("7: eight ops", x, eight.toString());
    }

    private static void promise7Refusals() {
        BitBlocks x = new BitBlocks();
        Check.due("7: depth 0 comes before the ops", x.form(), -1);
        x.op(FIXED, 1);
        Check.due("7: depth 0", x.form(), -1);
        x.enter(1, 2);
        Check.due("7: what was refused is still prepared", x.form(), 4);
        for (int number = 5; number < 12; number++) {
            x.op(FIXED, 1);
            Check.due("7: the next number", x.form(), number);
        }
        Check.due("7: no form comes before eight forms", x.form(), -2);
        x.op(FIXED, 1);
        int words = x.words();
        Check.due("7: a ninth form", x.form(), -4);
        Check.due("7: nothing is written", x.words(), words);
        Check.due("7: its op is still prepared", x.op(FIXED, 1), 2);
        x.enter(2, 2);
        Check.due("7: in a new block", x.form(), 4);
        x.leave();
        x.op(FIXED, 1);
        Check.due("7: in the old one", x.form(), -4);
        x.leave();
        x.enter(1, 2);
        Check.due("7: in a new block of the same id", x.form(), 4);
        x.leave();
        x.op(FIXED, 1);
        Check.due("7: at depth 0 again", x.form(), -1);
    }

    private static void promise7RowsOfOps() {
        int[][] none = {{}, {ROW}, {FIXED, ROW}, {ROW, LITERAL}, {ROW, ROW}, {ROW, ROW, FIXED},
            {ROW, FIXED, FIXED}, {ROW, FIXED, ROW, FIXED}, {FIXED, ROW, LITERAL}};
        int[][] forms = {{LITERAL}, {FIXED}, {CHUNKED}, {ROW, FIXED}, {ROW, CHUNKED},
            {LITERAL, ROW, FIXED}, {FIXED, CHUNKED, LITERAL, FIXED, LITERAL, LITERAL, ROW, FIXED}};
        BitBlocks x = new BitBlocks();
        x.enter(1, 4);
        for (int[] ops : none) {
            prepare(x, ops);
            Check.due("7: no form", x.form(), -2);
            x.drop();
        }
        for (int i = 0; i < forms.length; i++) {
            prepare(x, forms[i]);
            Check.due("7: form " + i, x.form(), 4 + i);
        }
    }

    private static void prepare(BitBlocks x, int[] kinds) {
        for (int i = 0; i < kinds.length; i++) {
            Check.due("7: op", x.op(kinds[i], 2), i + 1);
        }
    }

    private static void promise7Room() {
        // A form of one FIXED op takes 3 + 5 + 9 bits, and LEAVE 3 more.
        for (int spare = 16; spare <= 18; spare++) {
            BitBlocks x = Made.withSpare(1, 3, spare);
            int last = x.word(63);
            x.op(FIXED, 7);
            Check.due("7: spare bits " + spare, x.form(), spare < 17 ? -5 : 6);
            if (spare < 17) {
                Check.due("7: nothing is written", x.word(63), last);
                Check.due("7: the op is still prepared", x.op(FIXED, 7), 2);
                Check.due("7: there is no such form", x.record(0, 6), -2);
            }
            x.leave();
            Check.due("7: words", x.words(), 64);
        }
    }

    private static void promise7Info() {
        BitBlocks x = new BitBlocks();
        x.enter(0, 2);
        Check.due("7: no ops come before no target", x.form(), -2);
        x.op(FIXED, 8);
        Check.due("7: no target", x.form(), -3);
        x.value(9);
        x.record(1, 2);
        Check.due("7: kept for 9", x.form(), 4);
        x.op(FIXED, 9);
        Check.due("7: kept for 9", x.form(), 5);
        x.value(63);
        x.record(1, 2);
        x.op(FIXED, 10);
        Check.due("7: kept for 63", x.form(), 4);
        x.leave();

        x.enter(0, 2);
        x.op(FIXED, 11);
        Check.due("7: a new INFO has no target", x.form(), -3);
        x.value(9);
        x.record(1, 2);
        Check.due("7: more for 9", x.form(), 6);
        x.leave();

        x.enter(9, 4);
        Check.due("7: form 4 of 9", x.record(255, 4), 12);
        Check.due("7: form 5 of 9", x.record(511, 5), 13);
        Check.due("7: form 6 of 9", x.record(2047, 6), 15);
        Check.due("7: form 7 of 9", x.record(0, 7), -2);
        x.op(FIXED, 1);
        Check.due("7: one of its own is the next", x.form(), 7);
        x.leave();
        x.enter(63, 4);
        Check.due("7: form 4 of 63", x.record(1023, 4), 14);
        Check.due("7: form 5 of 63", x.record(0, 5), -2);
        infoInsideItsTarget(x);
        eightKeptForms();
    }

    private static void infoInsideItsTarget(BitBlocks x) {
        x.enter(0, 2);
        x.value(63);
        x.record(1, 2);
        x.op(FIXED, 2);
        Check.due("7: kept while a block of this id is open", x.form(), 5);
        x.leave();
        Check.due("7: the open block does not get it", x.record(0, 5), -2);
        x.enter(63, 4);
        Check.due("7: a new one does", x.record(0, 5), 6);
        x.leave();
        Check.due("7: the open block has not got it", x.record(0, 5), -2);
        x.op(FIXED, 3);
        Check.due("7: its own form", x.form(), 5);
        x.leave();
        x.enter(63, 4);
        Check.due("7: a form that a block has of its own is not kept", x.record(7, 5), -3);
    }

    private static void eightKeptForms() {
        BitBlocks x = new BitBlocks();
        x.enter(0, 2);
        x.value(7);
        x.record(1, 2);
        for (int number = 4; number < 12; number++) {
            x.op(FIXED, 1);
            Check.due("7: kept", x.form(), number);
        }
        Check.due("7: no form comes first", x.form(), -2);
        x.op(FIXED, 1);
        Check.due("7: a ninth", x.form(), -4);
        x.value(8);
        x.record(1, 2);
        Check.due("7: the first for another", x.form(), 4);
        x.leave();
        x.enter(7, 8);
        x.op(FIXED, 1);
        Check.due("7: the block has eight", x.form(), -4);
        Check.due("7: the eighth", x.record(1, 11), 9);
        Check.due("7: no ninth", x.record(1, 12), -2);
    }

    private static void promise8Plain() {
        BitBlocks x = new BitBlocks();
        x.enter(1, 2);
        Check.due("8: code 0", x.record(0, 2), 14);
        x.value(31);
        x.value(32);
        x.value(1024);
        Check.due("8: three values", x.record(33, 2), 2 + 12 + 6 + 6 + 12 + 18);
        Check.streamDue("8: plain", x, "10 100000 0100 / #0 01 000000 000000 "
                + "01 100001 100000 110000 111110 000001 100000 000001 000001 100000");
        Check.due("8: its values are prepared no more", x.value(1), 1);
        x.op(FIXED, 1);
        x.record(1, 2);
        Check.due("8: ops stay prepared", x.op(FIXED, 1), 2);
        Check.due("8: the largest code", x.record(MAX, 2), 2 + 42 + 6);
    }

    private static void promise8Forms() {
        BitBlocks x = new BitBlocks();
        x.enter(1, 3);
        x.op(FIXED, 3);
        x.op(LITERAL, 9);
        x.op(CHUNKED, 3);
        x.op(FIXED, 31);
        x.form();
        x.value(9);
        x.value(27);
        x.value(MAX);
        Check.due("8: by a form", x.record(5, 4), 3 + 3 + 9 + 31);
        Check.streamDue("8: by a form", x, "10 100000 1100 / #0 "
                + "110 00100 0 100 11000 1 10010000 0 010 11000 0 100 11111 10000 "
                + "001 101 111 011 100 " + Check.num(MAX, 31));
        x.value(9);
        x.value(0);
        Check.due("8: a value too few", x.record(5, 4), -3);
        x.value(0);
        Check.due("8: too large for FIXED", x.record(8, 4), -3);
        Check.due("8: it fits", x.record(7, 4), 3 + 3 + 3 + 31);
        x.value(8);
        x.value(0);
        x.value(0);
        Check.due("8: not the LITERAL", x.record(7, 4), -3);
        x.drop();
        x.value(9);
        x.value(0);
        x.value(0);
        x.value(0);
        Check.due("8: a value too many", x.record(7, 4), -3);
        x.drop();
        x.op(LITERAL, MAX);
        x.form();
        Check.due("8: nothing but its number", x.record(MAX, 5), 3);
        Check.due("8: another code", x.record(0, 5), -3);
        x.value(MAX);
        Check.due("8: a value too many", x.record(MAX, 5), -3);
        promise8ChunksOfAllWidths();
        promise8DeepForms();
    }

    private static void promise8ChunksOfAllWidths() {
        for (int w = 2; w <= 31; w++) {
            BitBlocks x = new BitBlocks();
            x.enter(1, 3);
            x.op(CHUNKED, w);
            x.form();
            String form = "10 100000 1100 / #0 110 10000 0 010 " + Check.chunks(w, 5);
            int[] codes = {MAX, 0, (1 << w - 1) - 1, 1 << w - 1};
            for (int code : codes) {
                String bits = "001" + Check.chunks(code, w);
                Check.due("8: " + code + " in chunks of " + w, x.record(code, 4), bits.length());
                form += bits;
                Check.streamDue("8: in chunks of " + w, x, form);
            }
        }
    }

    private static void promise8DeepForms() {
        BitBlocks x = new BitBlocks();
        for (int depth = 1; depth <= 6; depth++) {
            x.enter(1, 3);
            x.op(FIXED, depth);
            Check.due("8: a form at depth " + depth, x.form(), 4);
        }
        for (int depth = 6; depth >= 1; depth--) {
            Check.due("8: fits at depth " + depth, x.record((1 << depth) - 1, 4), 3 + depth);
            Check.due("8: does not fit at depth " + depth, x.record(1 << depth, 4), -3);
            x.leave();
        }
    }

    private static void promise8Rows() {
        BitBlocks x = new BitBlocks();
        x.enter(1, 3);
        x.op(ROW, 0);
        x.op(FIXED, 4);
        x.form();
        x.op(FIXED, 2);
        x.op(LITERAL, 3);
        x.op(ROW, 0);
        x.op(CHUNKED, 2);
        x.form();
        Check.due("8: the code alone in the row", x.record(15, 4), 3 + 6 + 4);
        Check.due("8: the code is too large", x.record(16, 4), -3);
        Check.due("8: the LITERAL is missing", x.record(1, 5), -3);
        x.value(3);
        Check.due("8: none in the row", x.record(1, 5), 3 + 2 + 6);
        x.value(3);
        x.value(2);
        x.value(1);
        Check.due("8: two in the row", x.record(3, 5), 3 + 2 + 6 + 4 + 2);
        Check.streamDue("8: rows", x, "10 100000 1100 / #0 "
                + "110 01000 0 110 0 100 00100 "
                + "110 00100 0 100 01000 1 11000000 0 110 0 010 01000 "
                + "001 100000 1111 101 10 000000 101 11 010000 0110 10");
        for (int i = 0; i < 16; i++) {
            x.value(i);
        }
        Check.due("8: sixteen in the row", x.record(0, 4), 3 + 6 + 17 * 4);
        x.value(1);
        x.value(16);
        Check.due("8: the last one is too large", x.record(0, 4), -3);
    }

    private static void promise8Refusals() {
        BitBlocks x = new BitBlocks();
        Check.due("8: depth 0", x.record(0, 2), -1);
        x.value(5);
        x.enter(1, 3);
        Check.due("8: the code", x.record(-1, 2), -1);
        Check.due("8: the code comes before the form", x.record(MIN, 0), -1);
        int[] none = {0, 1, 3, 4, 5, 8, 11, 12, -1, MIN, MIN + 3, MAX};
        for (int form : none) {
            Check.due("8: no form " + form, x.record(0, form), -2);
        }
        Check.due("8: nothing is written", x.words(), 2);
        Check.due("8: the value is still prepared", x.value(6), 2);
        for (int i = 0; i < 8; i++) {
            x.op(ROW, 0);
            x.op(CHUNKED, 6);
            x.form();
        }
        Check.due("8: form 7", x.record(0, 7), 3 + 6 + 6 * 3);
        for (int form = 8; form < 14; form++) {
            Check.due("8: not below 8 or none, " + form, x.record(0, form), -2);
        }
        x.enter(1, 2);
        x.op(FIXED, 1);
        x.form();
        Check.due("8: not below 4", x.record(0, 4), -2);
        Check.due("8: the form comes before the fit", x.record(9, 4), -2);
    }

    private static void promise8Room() {
        for (int spare = 3; spare <= 5; spare++) {
            BitBlocks x = Made.withSpare(1, 3, spare);
            int last = x.word(63);
            Check.due("8: does not fit", x.record(4, 5), -3);
            Check.due("8: 5 bits of " + spare, x.record(3, 5), spare < 5 ? -5 : 5);
            if (spare < 5) {
                Check.due("8: nothing is written", x.word(63), last);
                Check.due("8: 4 bits of " + spare, x.record(1, 4), spare < 4 ? -5 : 4);
            }
            x.value(7);
            Check.due("8: no room for it", x.record(7, 2), -5);
            Check.due("8: the value is still prepared", x.value(7), 2);
            Check.due("8: leave", x.leave(), 62);
            Check.due("8: words", x.words(), 64);
        }
    }

    private static void promise8RoomOfOuterBlocks() {
        // Three blocks of width 2 take 6 words; 3 more words are needed to leave them.
        BitBlocks x = Made.ofWords(54);
        for (int i = 0; i < 3; i++) {
            x.enter(1, 2);
        }
        Check.due("8: words", x.words(), 60);
        Check.due("8: 14 bits", x.record(0, 2), 14);
        Check.due("8: 28 bits", x.record(0, 2), 14);
        Check.due("8: 42 bits and a LEAVE in two words", x.record(0, 2), 14);
        Check.due("8: 56 bits and a LEAVE in two words", x.record(0, 2), 14);
        Check.due("8: 70 bits are too many", x.record(0, 2), -5);
        Check.due("8: leave", x.leave(), 2);
        Check.due("8: leave", x.leave(), 5);
        Check.due("8: leave", x.leave(), 8);
        Check.due("8: words", x.words(), 64);
    }

    private static void promise8Info() {
        BitBlocks x = new BitBlocks();
        x.enter(0, 3);
        Check.due("8: no value in INFO", x.record(1, 2), -3);
        x.value(0);
        Check.due("8: target 0", x.record(1, 2), -3);
        x.drop();
        x.value(64);
        Check.due("8: target 64", x.record(1, 2), -3);
        x.drop();
        x.value(5);
        Check.due("8: code 0", x.record(0, 2), -3);
        Check.due("8: code 2", x.record(2, 2), -3);
        Check.due("8: no forms in INFO", x.record(1, 4), -2);
        x.value(5);
        Check.due("8: two values", x.record(1, 2), -3);
        x.op(FIXED, 4);
        Check.due("8: none was a target", x.form(), -3);
        x.drop();
        x.value(1);
        Check.due("8: target 1", x.record(1, 2), 3 + 6 + 6 + 6);
        x.value(63);
        Check.due("8: target 63", x.record(1, 2), 3 + 6 + 6 + 12);
        Check.streamDue("8: targets", x, "10 000000 1100 / #0 010 100000 100000 100000 "
                + "010 100000 100000 111111 100000");
        x.op(FIXED, 4);
        Check.due("8: kept", x.form(), 4);
        Check.due("8: INFO has no forms of its own", x.record(1, 4), -2);
    }

    private static void promise9And10() {
        BitBlocks x = new BitBlocks();
        x.enter(1, 2);
        Check.due("9: two words", x.words(), 2);
        Check.due("10: the length of an open block", x.word(1), 0);
        x.record(0, 2);
        Check.due("9: one that is begun", x.words(), 3);
        Check.due("10: begun", x.word(2), 2);
        x.record(0, 2);
        Check.due("9: 28 bits", x.words(), 3);
        x.record(0, 2);
        Check.due("9: 42 bits", x.words(), 4);
        x.leave();
        Check.due("9: left", x.words(), 4);
        Check.due("10: the length", x.word(1), 2);
        int[] none = {-1, 4, 63, 64, 65, MAX, MIN};
        for (int i : none) {
            Check.due("10: word " + i, x.word(i), 0);
        }
        BitBlocks full = Made.ofWords(61);
        full.enter(1, 2);
        full.leave();
        Check.due("9: full", full.words(), 64);
        Check.due("10: the last but one", full.word(62), 1);
        Check.due("10: none", full.word(64), 0);

        BitBlocks high = new BitBlocks();
        high.enter(1, 4);
        high.op(FIXED, 28);
        high.op(FIXED, 31);
        high.form();
        high.record(0, 2);
        high.value(MAX);
        high.record((1 << 28) - 1, 4);
        Check.streamDue("10: all bits of a word", high, "10 100000 0010 / #0 "
                + "1100 01000 0 100 00111 10000 0 100 11111 10000 0100 000000 000000 0010 "
                + Check.num(-1, 28) + Check.num(-1, 31));
    }

    private static void promise11() {
        BitBlocks x = new BitBlocks();
        for (int i = 1; i <= 6; i++) {
            x.enter(i, 2);
            Check.due("11: in", x.depth(), i);
        }
        x.enter(7, 2);
        Check.due("11: refused", x.depth(), 6);
        x.record(0, 2);
        Check.due("11: a record", x.depth(), 6);
        for (int i = 5; i >= 0; i--) {
            x.leave();
            Check.due("11: out", x.depth(), i);
        }
        x.leave();
        Check.due("11: refused", x.depth(), 0);
        Check.due("11: the reader's is another", x.level(), 0);
    }

    private static void promise12() {
        BitBlocks x = new BitBlocks();
        x.enter(1, 2);
        x.leave();
        x.copy();
        Check.due("12: the reader reads", Check.next(x), 1);
        x.enter(0, 2);
        x.value(5);
        x.record(1, 2);
        x.op(FIXED, 5);
        x.form();
        x.leave();
        x.enter(5, 3);
        x.enter(5, 3);
        x.op(FIXED, 6);
        x.form();
        x.op(FIXED, 7);
        x.value(8);
        x.clear();
        Check.due("12: words", x.words(), 0);
        for (int i = 0; i < 64; i++) {
            Check.due("12: word " + i, x.word(i), 0);
        }
        Check.due("12: depth", x.depth(), 0);
        Check.due("12: leave", x.leave(), -1);
        Check.due("12: no op", x.op(LITERAL, 1), 1);
        Check.due("12: no value", x.value(1), 1);
        x.drop();
        for (int i = 0; i < 3; i++) {
            x.enter(5, 3);
            Check.due("12: nothing is kept", x.record(0, 4), -2);
        }
        x.clear();
        Check.due("12: the reader stays where it was", x.level(), 1);
        Check.due("12: and shows what it showed", x.info(0), 1);
        Check.due("12: and reads on", Check.next(x), 2);
        x.enter(0, 2);
        x.op(FIXED, 5);
        Check.due("12: no target", x.form(), -3);
        x.clear();
        BitBlocks full = Made.ofWords(61);
        full.clear();
        Check.due("12: room again", full.enter(1, 2), 0);
        full.leave();
        Check.streamDue("12: a clean stream", full, "10 100000 0100 / #1 00 /");
    }
}
