/**
 * Promise 8, sentence by sentence: what each boundary asks for on it, one step inside it and one
 * step outside it.
 */
public final class RecordEdgesTest {
    private static final int LITERAL = 0;
    private static final int FIXED = 1;
    private static final int CHUNKED = 2;
    private static final int ROW = 3;
    private static final int MAX = Integer.MAX_VALUE;
    private static final int MIN = Integer.MIN_VALUE;

    public static void main(String[] args) {
        depth();
        codes();
        numbersOfForms();
        numbersBelowTheWidth();
        countOfValues();
        bitsOfPlain();
        fitLiteral();
        fitFixed();
        fitChunked();
        fitCount();
        fitRowCount();
        fitRowNumbers();
        bitsOfARow();
        infoCode();
        infoValues();
        infoForms();
        infoTargetIsTheLatest();
        room();
        roomOfPlain();
        roomInInfo();
        order();
        takesOnlyValues();
        Check.end();
    }

    private static BitBlocks inBlock(int id, int width) {
        BitBlocks x = new BitBlocks();
        x.enter(id, width);
        return x;
    }

    private static void values(BitBlocks x, int count, int value) {
        for (int i = 0; i < count; i++) {
            x.value(value);
        }
    }

    // 8: "-1 depth 0"
    private static void depth() {
        BitBlocks x = new BitBlocks();
        Check.due("8: depth 0", x.record(0, 2), -1);
        Check.due("8: depth 0", x.record(0, 4), -1);
        for (int depth = 1; depth <= 6; depth++) {
            x.enter(1, 2);
            Check.due("8: depth " + depth, x.record(0, 2), 14);
        }
        for (int depth = 6; depth >= 1; depth--) {
            Check.due("8: depth " + depth, x.record(0, 2), 14);
            x.leave();
        }
        Check.due("8: depth 0", x.record(0, 2), -1);
    }

    // 8: "or the code is below 0"
    private static void codes() {
        for (int width = 2; width <= 8; width++) {
            BitBlocks x = inBlock(1, width);
            x.op(CHUNKED, 31);
            x.form();
            for (int code : new int[] {MIN, MIN + 1, -2, -1}) {
                Check.due("8: code " + code, x.record(code, 2), -1);
                Check.due("8: code " + code, x.record(code, 4), -1);
            }
            for (int code : new int[] {0, 1, MAX - 1, MAX}) {
                Check.due("8: code " + code, x.record(code, 2), width + 6 + (code < 2 ? 6 : 42));
                Check.due("8: code " + code, x.record(code, 4),
                        width == 2 ? -2 : width + (code < 2 ? 31 : 62));
            }
        }
    }

    // 8: "-2 there is no such form in this block"
    private static void numbersOfForms() {
        for (int width = 4; width <= 8; width++) {
            for (int forms = 0; forms <= 8; forms++) {
                BitBlocks x = inBlock(1, width);
                for (int i = 0; i < forms; i++) {
                    x.op(FIXED, 1 + i);
                    x.form();
                }
                for (int form = -3; form <= 18; form++) {
                    boolean there = form >= 4 && form < 4 + forms;
                    int bits = form == 2 ? 12 : form - 3;
                    Check.due("8: form " + form + " of " + forms, x.record(0, form),
                            there || form == 2 ? width + bits : -2);
                }
                for (int form : new int[] {MIN, MIN + 3, MIN + 4, -252, 256 + 4, MAX}) {
                    Check.due("8: form " + form, x.record(0, form), -2);
                }
            }
        }
    }

    // 8: "or its number is not below 2^width"
    private static void numbersBelowTheWidth() {
        for (int width = 2; width <= 8; width++) {
            BitBlocks x = new BitBlocks();
            x.enter(0, 2);
            x.value(9);
            x.record(1, 2);
            for (int i = 0; i < 8; i++) {
                x.op(FIXED, 1);
                x.form();
            }
            x.leave();
            x.enter(9, width);
            Check.due("8: PLAIN", x.record(1, 2), width + 12);
            for (int form = 4; form <= 11; form++) {
                Check.due("8: form " + form + " in width " + width, x.record(1, form),
                        form < 1 << width ? width + 1 : -2);
            }
        }
    }

    // "A RECORD has a CODE and 0 to 16 VALUES"
    private static void countOfValues() {
        for (int width = 2; width <= 8; width++) {
            for (int count = 0; count <= 17; count++) {
                BitBlocks x = inBlock(1, width);
                values(x, count, 5);
                Check.due("8: values " + count, x.record(1, 2),
                        width + 12 + 6 * Math.min(16, count));
                x.leave();
                x.copy();
                Check.nextDue("8: it is read", x, 1, 4);
                Check.due("8: its values", x.info(2), Math.min(16, count));
            }
        }
    }

    // "CHUNKS OF w", at each number where another chunk begins
    private static void bitsOfPlain() {
        for (int bits = 0; bits <= 31; bits++) {
            int edge = bits == 31 ? MAX : 1 << bits;
            for (int number : new int[] {edge - 1, edge}) {
                BitBlocks x = inBlock(1, 2);
                x.value(number);
                String due = "01" + Check.chunks(number, 6) + "100000" + Check.chunks(number, 6);
                Check.due("8: " + number, x.record(number, 2), due.length());
                Check.streamDue("8: " + number, x, "10 100000 0100 / #0" + " " + due);
                for (int w = 2; w <= 31; w++) {
                    x = inBlock(1, 3);
                    x.op(CHUNKED, w);
                    x.form();
                    due = "001" + Check.chunks(number, w);
                    Check.due("8: in chunks of " + w, x.record(number, 4), due.length());
                    Check.streamDue("8: in chunks of " + w, x, "10 100000 1100 / #0 "
                            + "110 10000 0 010" + Check.chunks(w, 5) + due);
                }
            }
        }
    }

    /** In a block of width 4 whose form 4 has these ops: kinds and numbers. */
    private static BitBlocks withForm(int... ops) {
        BitBlocks x = inBlock(1, 4);
        for (int i = 0; i < ops.length; i += 2) {
            x.op(ops[i], ops[i + 1]);
        }
        Check.due("8: a form", x.form(), 4);
        return x;
    }

    // "LITERAL v with v itself"
    private static void fitLiteral() {
        for (int v : new int[] {0, 1, 127, 128, 1 << 30, MAX - 1, MAX}) {
            BitBlocks x = withForm(LITERAL, v, LITERAL, v);
            x.value(v);
            if (v > 0) {
                Check.due("8: a code less than " + v, x.record(v - 1, 4), -3);
            }
            if (v < MAX) {
                Check.due("8: a code more than " + v, x.record(v + 1, 4), -3);
            }
            Check.due("8: the literals " + v, x.record(v, 4), 4);
            for (int other : new int[] {v - 1, v + 1, v ^ 1 << 30, v ^ 1}) {
                x.drop();
                if (x.value(other) == 1) {
                    Check.due("8: the value " + other, x.record(v, 4), -3);
                }
            }
        }
    }

    // "FIXED w with a number below 2^w"
    private static void fitFixed() {
        for (int w = 1; w <= 31; w++) {
            int most = w == 31 ? MAX : (1 << w) - 1;
            BitBlocks x = withForm(FIXED, w, FIXED, w);
            for (int number : new int[] {0, most - 1, most}) {
                x.value(number);
                Check.due("8: " + number + " in " + w + " bits", x.record(number, 4), 4 + 2 * w);
            }
            if (w == 31) {
                continue;
            }
            for (int number : new int[] {most + 1, most + 2, 1 << 30, MAX}) {
                x.drop();
                x.value(0);
                Check.due("8: the code " + number + " in " + w, x.record(number, 4), -3);
                x.drop();
                x.value(number);
                Check.due("8: the value " + number + " in " + w, x.record(0, 4), -3);
            }
        }
    }

    // "CHUNKED w with any"
    private static void fitChunked() {
        for (int w = 2; w <= 31; w++) {
            BitBlocks x = withForm(CHUNKED, w, CHUNKED, w);
            for (int number : new int[] {0, 1, (1 << w - 1) - 1, 1 << w - 1, MAX - 1, MAX}) {
                x.value(number);
                Check.due("8: " + number + " in chunks of " + w, x.record(number, 4),
                        4 + 2 * Check.chunks(number, w).length());
            }
        }
    }

    // "and nothing is left over, on either side"
    private static void fitCount() {
        for (int ops = 1; ops <= 8; ops++) {
            for (int kind = LITERAL; kind <= CHUNKED; kind++) {
                BitBlocks x = inBlock(1, 4);
                for (int i = 0; i < ops; i++) {
                    x.op(kind, 2);
                }
                x.form();
                int bits = kind == LITERAL ? 0 : kind == FIXED ? 2 * ops : 4 * ops;
                for (int count = 0; count <= 16; count++) {
                    values(x, count, 2);
                    Check.due("8: values " + count + " for ops " + ops, x.record(2, 4),
                            count + 1 == ops ? 4 + bits : -3);
                    x.drop();
                }
            }
        }
    }

    // "a ROW with its op with all that are left (also none)"
    private static void fitRowCount() {
        for (int before = 0; before <= 6; before++) {
            BitBlocks x = inBlock(1, 4);
            for (int i = 0; i < before; i++) {
                x.op(LITERAL, 2);
            }
            x.op(ROW, 0);
            x.op(FIXED, 2);
            Check.due("8: a form", x.form(), 4);
            for (int count = 0; count <= 16; count++) {
                values(x, count, 2);
                int inTheRow = count + 1 - before;
                Check.due("8: values " + count + ", before the ROW " + before, x.record(2, 4),
                        inTheRow < 0 ? -3 : 4 + 6 + 2 * inTheRow);
                x.drop();
            }
        }
    }

    // "each of which matches that op"
    private static void fitRowNumbers() {
        for (int count = 1; count <= 16; count++) {
            for (int wrong = 0; wrong <= count; wrong++) {
                BitBlocks x = withForm(ROW, 0, FIXED, 3);
                for (int i = 1; i <= count; i++) {
                    x.value(i == wrong ? 8 : 7);
                }
                Check.due("8: 8 at " + wrong, x.record(wrong == 0 ? 8 : 7, 4), -3);
                x.drop();
                values(x, count, 7);
                Check.due("8: all are 7", x.record(7, 4), 4 + 6 + 3 * (count + 1));
            }
        }
        BitBlocks x = withForm(ROW, 0, CHUNKED, 2);
        values(x, 16, MAX);
        Check.due("8: any in chunks", x.record(MAX, 4), 4 + 6 + 17 * 62);
    }

    // "ROW how many there are in chunks of 6 ..., and each by the op behind it"
    private static void bitsOfARow() {
        for (int count = 0; count <= 16; count++) {
            BitBlocks x = withForm(FIXED, 1, ROW, 0, FIXED, 4);
            StringBuilder bits = new StringBuilder("0010 1" + Check.chunks(count, 6));
            for (int i = 0; i < count; i++) {
                x.value(15 - i % 2);
                bits.append(Check.num(15 - i % 2, 4));
            }
            x.record(1, 4);
            Check.streamDue("8: a row of " + count, x, "10 100000 0010 / #0 "
                    + "1100 11000 0 100 10000 0 110 0 100 00100 " + bits);
        }
    }

    // "In INFO only with the code 1 and one value, 1 .. 63"
    private static void infoCode() {
        for (int code : new int[] {0, 2, 3, 63, MAX}) {
            BitBlocks x = inBlock(0, 2);
            x.value(5);
            Check.due("8: code " + code, x.record(code, 2), -3);
            Check.due("8: code 1", x.record(1, 2), 20);
        }
    }

    private static void infoValues() {
        for (int count = 0; count <= 16; count++) {
            BitBlocks x = inBlock(0, 2);
            values(x, count, 1);
            Check.due("8: values " + count + " in INFO", x.record(1, 2), count == 1 ? 20 : -3);
            x.drop();
            x.op(FIXED, 1);
            Check.due("8: a target or none", x.form(), count == 1 ? 4 : -3);
        }
        for (int value = 0; value <= 130; value++) {
            BitBlocks x = inBlock(0, 2);
            x.value(value);
            boolean right = value >= 1 && value <= 63;
            Check.due("8: value " + value + " in INFO", x.record(1, 2),
                    right ? value < 32 ? 20 : 26 : -3);
            x.op(FIXED, 1);
            Check.due("8: a target or none", x.form(), right ? 4 : -3);
        }
        for (int value : new int[] {256 + 1, 1 << 30, MAX - 62, MAX}) {
            BitBlocks x = inBlock(0, 2);
            x.value(value);
            Check.due("8: value " + value + " in INFO", x.record(1, 2), -3);
        }
    }

    // "n from 4 on (not in INFO)"; "and no forms of its own"
    private static void infoForms() {
        for (int depth = 1; depth <= 6; depth++) {
            BitBlocks x = Made.nested(depth, 4);
            x.record(1, 4);
            x.leave();
            x.enter(0, 4);
            x.value(7);
            for (int form = 0; form <= 12; form++) {
                if (form != 2) {
                    Check.due("8: form " + form + " in INFO", x.record(1, form), -2);
                }
            }
            Check.due("8: a target", x.record(1, 2), 22);
            x.op(FIXED, 1);
            Check.due("8: a kept form", x.form(), 4);
            Check.due("8: is none of INFO's own", x.record(1, 4), -2);
        }
    }

    private static void infoTargetIsTheLatest() {
        BitBlocks x = inBlock(0, 2);
        for (int target : new int[] {1, 63, 1, 32, 63}) {
            x.value(target);
            x.record(1, 2);
            x.value(64);
            Check.due("8: no target", x.record(1, 2), -3);
            x.drop();
            x.op(FIXED, 1);
            x.form();
        }
        x.leave();
        int[][] kept = {{1, 2}, {2, 0}, {31, 0}, {32, 1}, {62, 0}, {63, 2}};
        for (int[] one : kept) {
            x.enter(one[0], 4);
            Check.due("8: the last kept for " + one[0], x.record(0, 3 + one[1]),
                    one[1] > 0 ? 5 : -2);
            Check.due("8: no more for " + one[0], x.record(0, 4 + one[1]), -2);
            x.leave();
        }
    }

    // 8: "-5 the stream would be longer than 64 words, when each open block is left at once"
    private static void room() {
        for (int depth = 1; depth <= 6; depth++) {
            for (int width = 3; width <= 8; width++) {
                for (int form = 4; form <= 5; form++) {
                    int need = width + form - 3;
                    for (int spare = need - 1; spare <= need + 1; spare++) {
                        BitBlocks x = Made.withSpare(depth, width, spare);
                        int words = x.words();
                        int last = x.word(64 - depth);
                        Check.due("8: spare bits " + spare, x.record(1, form),
                                spare < need ? -5 : need);
                        if (spare < need) {
                            Check.due("8: nothing is written", x.word(64 - depth), last);
                            Check.due("8: words", x.words(), words);
                        }
                        leaveAll(x, depth);
                    }
                }
            }
        }
    }

    private static void leaveAll(BitBlocks x, int depth) {
        for (int i = 0; i < depth; i++) {
            x.leave();
        }
        Check.due("8: depth", x.depth(), 0);
        Check.due("8: words", x.words(), 64);
    }

    private static void roomOfPlain() {
        for (int depth = 1; depth <= 6; depth++) {
            for (int spare = 12; spare <= 16; spare += 2) {
                BitBlocks x = Made.withSpare(depth, 2, spare);
                Check.due("8: a code in two chunks", x.record(32, 2), -5);
                Check.due("8: spare bits " + spare, x.record(31, 2), spare < 14 ? -5 : 14);
                leaveAll(x, depth);
            }
            for (int width = 3; width <= 8; width++) {
                BitBlocks x = Made.withSpare(depth, width, width + 18);
                values(x, 2, 0);
                Check.due("8: two values", x.record(0, 2), -5);
                x.drop();
                x.value(32);
                Check.due("8: a value in two chunks", x.record(0, 2), -5);
                x.drop();
                x.value(31);
                Check.due("8: a value in one", x.record(31, 2), width + 18);
                Check.due("8: full", x.record(0, 4), -5);
                leaveAll(x, depth);
            }
        }
        BitBlocks x = new BitBlocks();
        x.enter(1, 2);
        for (int i = 0; i < 3; i++) {
            values(x, 16, MAX);
            Check.due("8: 686 bits", x.record(0, 2), i < 2 ? 686 : -5);
        }
        Check.due("8: words", x.words(), 2 + 43);
    }

    private static void roomInInfo() {
        // One word: the target in one chunk takes width + 18 bits, in two of them six more.
        for (int width = 2; width <= 8; width++) {
            for (int target = 31; target <= 32; target++) {
                BitBlocks x = Made.ofWords(61);
                x.enter(0, width);
                x.value(target);
                int bits = width + (target < 32 ? 18 : 24);
                Check.due("8: a target in INFO", x.record(1, 2), bits + width <= 32 ? bits : -5);
                x.leave();
                Check.due("8: words", x.words(), 64);
            }
        }
    }

    // 8: "Refused, first that holds"
    private static void order() {
        BitBlocks x = new BitBlocks();
        Check.due("8: -1 before -2", x.record(0, 3), -1);
        x = withForm(FIXED, 1);
        Check.due("8: -1 before -2", x.record(-1, 5), -1);
        Check.due("8: -1 before -3", x.record(-1, 4), -1);
        Check.due("8: -2 before -3", x.record(2, 5), -2);
        Check.due("8: -3", x.record(2, 4), -3);

        x = inBlock(1, 2);
        x.op(FIXED, 1);
        x.form();
        Check.due("8: not below 2^width, before -3", x.record(2, 4), -2);

        x = inBlock(0, 2);
        Check.due("8: -1 before -3 in INFO", x.record(-1, 2), -1);
        Check.due("8: -2 before -3 in INFO", x.record(0, 4), -2);

        x = Made.withSpare(1, 3, 0);
        Check.due("8: -1 before -5", x.record(-1, 2), -1);
        Check.due("8: -2 before -5", x.record(0, 6), -2);
        Check.due("8: -3 before -5", x.record(2, 4), -3);
        Check.due("8: -5", x.record(1, 4), -5);
        Check.due("8: -5", x.record(2, 2), -5);

        x = Made.ofWords(61);
        x.enter(0, 8);
        x.value(64);
        Check.due("8: -3 before -5 in INFO", x.record(1, 2), -3);
        x.drop();
        x.value(63);
        Check.due("8: -5 in INFO", x.record(1, 2), -5);
    }

    // 8: "the prepared values, which are prepared no more"
    private static void takesOnlyValues() {
        BitBlocks x = withForm(ROW, 0, FIXED, 1);
        for (int form : new int[] {2, 4}) {
            for (int i = 0; i < 8; i++) {
                x.op(FIXED, 1);
            }
            values(x, 16, 1);
            Check.due("8: all values", x.record(1, form), form == 2 ? 4 + 12 + 96 : 4 + 6 + 17);
            Check.due("8: no values", x.record(1, form), form == 2 ? 4 + 12 : 4 + 6 + 1);
            Check.due("8: the first value", x.value(1), 1);
            Check.due("8: all ops", x.op(FIXED, 1), -2);
            x.drop();
        }
    }
}
