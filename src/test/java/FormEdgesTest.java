/**
 * Promises 4 to 7, sentence by sentence: what each boundary asks for on it, one step inside it and
 * one step outside it.
 */
public final class FormEdgesTest {
    private static final int LITERAL = 0;
    private static final int FIXED = 1;
    private static final int CHUNKED = 2;
    private static final int ROW = 3;
    private static final int MAX = Integer.MAX_VALUE;
    private static final int MIN = Integer.MIN_VALUE;

    public static void main(String[] args) {
        opKinds();
        opLiterals();
        opWidths();
        opRow();
        opCount();
        opOrder();
        valueNumbers();
        valueCount();
        valueOrder();
        dropOfSome();
        dropLeavesTheRest();
        formDepth();
        formCountOfOps();
        formPlaceOfTheRow();
        formOpBehindTheRow();
        formRows();
        formBitsOfOps();
        formTarget();
        formEight();
        formEightKept();
        formKeptAndOwn();
        formKeptForEachId();
        formRoom();
        formRoomInInfo();
        formOrder();
        formTakesOnlyOps();
        Check.end();
    }

    private static BitBlocks inBlock(int id, int width) {
        BitBlocks x = new BitBlocks();
        x.enter(id, width);
        return x;
    }

    // 4: "kind 0 LITERAL v (0 or more), 1 FIXED v, 2 CHUNKED v, 3 ROW"; "-1 if it is no op"
    private static void opKinds() {
        for (int kind : new int[] {MIN, MIN + 1, -2, -1, 4, 5, 7, 8, 256, MAX}) {
            for (int v : new int[] {MIN, -1, 0, 1, 2, 31, MAX}) {
                Check.due("4: kind " + kind, new BitBlocks().op(kind, v), -1);
            }
        }
        for (int kind = 0; kind <= 3; kind++) {
            Check.due("4: kind " + kind, new BitBlocks().op(kind, 2), 1);
        }
    }

    private static void opLiterals() {
        for (int v : new int[] {MIN, MIN + 1, -2, -1}) {
            Check.due("4: LITERAL " + v, new BitBlocks().op(LITERAL, v), -1);
        }
        for (int v : new int[] {0, 1, 2, 31, 32, 127, 128, MAX - 1, MAX}) {
            Check.due("4: LITERAL " + v, new BitBlocks().op(LITERAL, v), 1);
        }
    }

    // "FIXED w (w 1 .. 31); CHUNKED w (w 2 .. 31)"
    private static void opWidths() {
        for (int w = -3; w <= 70; w++) {
            Check.due("4: FIXED " + w, new BitBlocks().op(FIXED, w), w >= 1 && w <= 31 ? 1 : -1);
            Check.due("4: CHUNKED " + w, new BitBlocks().op(CHUNKED, w),
                    w >= 2 && w <= 31 ? 1 : -1);
        }
        for (int w : new int[] {MIN, MIN + 2, -30, 256 + 2, MAX - 1, MAX}) {
            Check.due("4: FIXED " + w, new BitBlocks().op(FIXED, w), -1);
            Check.due("4: CHUNKED " + w, new BitBlocks().op(CHUNKED, w), -1);
        }
    }

    // 4: "3 ROW (v is not looked at)"
    private static void opRow() {
        for (int v : new int[] {MIN, -1, 0, 1, 2, 31, 32, MAX}) {
            BitBlocks x = inBlock(1, 3);
            Check.due("4: ROW " + v, x.op(ROW, v), 1);
            x.op(FIXED, 4);
            Check.due("4: a form", x.form(), 4);
            Check.streamDue("4: ROW " + v, x,
                    "10 100000 1100 / #0 110 01000 0 110 0 100 00100");
        }
    }

    // 4: "how many are prepared; ... -2 if 8 are prepared"
    private static void opCount() {
        for (int kind = LITERAL; kind <= ROW; kind++) {
            BitBlocks x = new BitBlocks();
            for (int n = 1; n <= 8; n++) {
                Check.due("4: op " + n, x.op(kind, 2), n);
            }
            for (int other = LITERAL; other <= ROW; other++) {
                Check.due("4: a ninth", x.op(other, 2), -2);
            }
            x.drop();
            Check.due("4: the first again", x.op(kind, 2), 1);
        }
        BitBlocks x = inBlock(1, 3);
        for (int v = 1; v <= 9; v++) {
            x.op(LITERAL, v);
        }
        x.form();
        x.leave();
        x.copy();
        Check.nextDue("4: eight are written", x, 1, 3);
        Check.infoDue("4: eight are written", x, 8, 4);
        Check.nextDue("4: and nothing else", x, 2, 0);
    }

    // 4: "-1 if it is no op, -2 if 8 are prepared": in this order.
    private static void opOrder() {
        BitBlocks x = new BitBlocks();
        for (int n = 1; n <= 8; n++) {
            x.op(FIXED, n);
        }
        Check.due("4: no op", x.op(FIXED, 0), -1);
        Check.due("4: no op", x.op(FIXED, 32), -1);
        Check.due("4: no op", x.op(CHUNKED, 1), -1);
        Check.due("4: no op", x.op(LITERAL, -1), -1);
        Check.due("4: no op", x.op(4, 2), -1);
        Check.due("4: an op", x.op(FIXED, 1), -2);
        Check.due("4: an op", x.op(FIXED, 31), -2);
    }

    // 5: "-1 if v is below 0"
    private static void valueNumbers() {
        for (int v : new int[] {MIN, MIN + 1, -2, -1}) {
            Check.due("5: " + v, new BitBlocks().value(v), -1);
        }
        for (int v : new int[] {0, 1, 2, 31, 32, MAX - 1, MAX}) {
            BitBlocks x = inBlock(1, 2);
            Check.due("5: " + v, x.value(v), 1);
            x.record(0, 2);
            x.leave();
            x.copy();
            Check.nextDue("5: " + v, x, 1, 4);
            Check.infoDue("5: " + v, x, 0, 2, 1, v);
        }
    }

    // 5: "how many are prepared; ... -2 if 16 are prepared"
    private static void valueCount() {
        BitBlocks x = inBlock(1, 2);
        for (int n = 1; n <= 16; n++) {
            Check.due("5: value " + n, x.value(n), n);
        }
        Check.due("5: a 17th", x.value(17), -2);
        Check.due("5: a 17th", x.value(0), -2);
        Check.due("5: a 17th", x.value(MAX), -2);
        Check.due("5: sixteen are written", x.record(0, 2), 2 + 6 + 6 + 16 * 6);
        Check.due("5: the first again", x.value(1), 1);
        x.leave();
        x.copy();
        Check.nextDue("5: sixteen are written", x, 1, 4);
        Check.infoDue("5: sixteen", x, 0, 2, 16, 1, 2, 3, 4, 5, 6, 7, 8, 9, 10, 11, 12, 13, 14, 15,
                16);
    }

    // 5: "-1 if v is below 0, -2 if 16 are prepared": in this order.
    private static void valueOrder() {
        BitBlocks x = new BitBlocks();
        for (int n = 1; n <= 16; n++) {
            x.value(n);
        }
        Check.due("5: below 0", x.value(-1), -1);
        Check.due("5: below 0", x.value(MIN), -1);
        Check.due("5: 0", x.value(0), -2);
    }

    // 6: "Nothing is prepared any more."
    private static void dropOfSome() {
        int[][] counts = {{0, 0}, {1, 0}, {0, 1}, {1, 1}, {7, 15}, {8, 0}, {0, 16}, {8, 16}};
        for (int[] count : counts) {
            BitBlocks x = new BitBlocks();
            for (int i = 0; i < count[0]; i++) {
                x.op(ROW, 0);
            }
            for (int i = 0; i < count[1]; i++) {
                x.value(MAX);
            }
            x.drop();
            Twins.alike("6: drop of " + count[0] + " and " + count[1], x, new BitBlocks());
        }
        BitBlocks x = inBlock(1, 3);
        x.op(FIXED, 1);
        x.value(1);
        x.drop();
        Check.due("6: no ops", x.form(), -2);
        Check.due("6: no values", x.record(0, 2), 15);
        x.drop();
        x.drop();
        Check.due("6: the first op", x.op(FIXED, 1), 1);
        Check.due("6: the first value", x.value(1), 1);
    }

    private static void dropLeavesTheRest() {
        Twins.unchanged("6: nothing but what is prepared", x -> {
            x.enter(0, 2);
            x.value(1);
            x.record(1, 2);
            x.op(FIXED, 1);
            x.form();
            x.leave();
            x.copy();
            Check.next(x);
            x.enter(1, 3);
            x.op(FIXED, 2);
            x.form();
        }, 0, x -> {
            x.drop();
            return 0;
        });
        Twins.unchanged("6: the target stays", x -> {
            x.enter(0, 2);
            x.value(1);
            x.record(1, 2);
        }, 0, x -> {
            x.drop();
            return 0;
        });
    }

    // 7: "-1 depth 0"
    private static void formDepth() {
        BitBlocks x = new BitBlocks();
        x.op(FIXED, 1);
        Check.due("7: depth 0", x.form(), -1);
        for (int depth = 1; depth <= 6; depth++) {
            x.enter(1, 2);
            Check.due("7: depth " + depth, x.form(), 4);
            x.op(FIXED, 1);
        }
        for (int depth = 6; depth >= 1; depth--) {
            Check.due("7: depth " + depth, x.form(), 5);
            x.op(FIXED, 1);
            x.leave();
        }
        Check.due("7: depth 0", x.form(), -1);
    }

    // 7: "-2 the ops are no form"; "A FORM is a row of 1 to 8 OPS"
    private static void formCountOfOps() {
        for (int kind = LITERAL; kind <= CHUNKED; kind++) {
            for (int count = 0; count <= 8; count++) {
                BitBlocks x = inBlock(1, 3);
                for (int i = 0; i < count; i++) {
                    x.op(kind, 2);
                }
                Check.due("7: ops " + count, x.form(), count == 0 ? -2 : 4);
            }
        }
    }

    // "If there is a ROW, it is the last but one"
    private static void formPlaceOfTheRow() {
        for (int behind = FIXED; behind <= CHUNKED; behind++) {
            for (int count = 1; count <= 8; count++) {
                for (int place = 0; place < count; place++) {
                    BitBlocks x = inBlock(1, 3);
                    for (int i = 0; i < count; i++) {
                        x.op(i == place ? ROW : behind, 2);
                    }
                    Check.due("7: ROW at " + place + " of " + count, x.form(),
                            place == count - 2 ? 4 : -2);
                    Check.due("7: prepared or not", x.op(FIXED, 1),
                            place == count - 2 ? 1 : count == 8 ? -2 : count + 1);
                }
            }
        }
    }

    // "behind it stands a FIXED or CHUNKED one"
    private static void formOpBehindTheRow() {
        for (int count = 2; count <= 8; count++) {
            for (int behind = LITERAL; behind <= ROW; behind++) {
                BitBlocks x = inBlock(1, 3);
                for (int i = 0; i < count - 2; i++) {
                    x.op(i % 3, 2);
                }
                x.op(ROW, 2);
                x.op(behind, 2);
                Check.due("7: kind " + behind + " behind the ROW", x.form(),
                        behind == FIXED || behind == CHUNKED ? 4 : -2);
            }
        }
    }

    // "no other op is ROW"
    private static void formRows() {
        for (int count = 2; count <= 8; count++) {
            for (int one = 0; one < count; one++) {
                for (int two = one + 1; two < count; two++) {
                    BitBlocks x = inBlock(1, 3);
                    for (int i = 0; i < count; i++) {
                        x.op(i == one || i == two ? ROW : FIXED, 2);
                    }
                    Check.due("7: ROWs at " + one + " and " + two, x.form(), -2);
                }
            }
        }
    }

    // "3 FORM: the number of ops in chunks of 5; for each op ..."
    private static void formBitsOfOps() {
        for (int w = 1; w <= 31; w++) {
            for (int kind = w < 2 ? FIXED : CHUNKED; kind >= FIXED; kind--) {
                BitBlocks x = inBlock(1, 3);
                x.op(kind, w);
                x.form();
                Check.streamDue("7: w " + w, x, "10 100000 1100 / #0 110 10000 0"
                        + Check.num(kind, 3) + Check.chunks(w, 5));
            }
        }
        for (int bits = 0; bits <= 31; bits++) {
            int edge = bits == 31 ? MAX : 1 << bits;
            for (int v : new int[] {edge - 1, edge}) {
                BitBlocks x = inBlock(1, 3);
                x.op(LITERAL, v);
                x.form();
                Check.streamDue("7: LITERAL " + v, x, "10 100000 1100 / #0 110 10000 1"
                        + Check.chunks(v, 8));
            }
        }
        for (int count = 1; count <= 8; count++) {
            BitBlocks x = inBlock(1, 3);
            StringBuilder ops = new StringBuilder();
            for (int i = 0; i < count; i++) {
                x.op(LITERAL, i);
                ops.append('1').append(Check.chunks(i, 8));
            }
            x.form();
            Check.streamDue("7: ops " + count, x, "10 100000 1100 / #0 110 "
                    + Check.chunks(count, 5) + ops);
        }
    }

    // 7: "-3 INFO without a target"; "it has a TARGET, a block id 1 .. 63 or none (at first none)"
    private static void formTarget() {
        for (int depth = 1; depth <= 6; depth++) {
            BitBlocks x = new BitBlocks();
            for (int i = 1; i < depth; i++) {
                x.enter(1, 2);
            }
            x.enter(0, 2);
            x.op(FIXED, 1);
            Check.due("7: no target", x.form(), -3);
            for (int none : new int[] {0, 64}) {
                x.value(none);
                Check.due("7: no target", x.record(1, 2), -3);
                x.drop();
                x.op(FIXED, 1);
                Check.due("7: still none", x.form(), -3);
            }
            x.value(depth % 2 == 0 ? 1 : 63);
            x.record(1, 2);
            Check.due("7: a target", x.form(), 4);
            x.leave();
            x.enter(0, 2);
            x.op(FIXED, 1);
            Check.due("7: none again", x.form(), -3);
            x.leave();
            x.enter(2, 2);
            Check.due("7: not in INFO", x.form(), 4);
        }
    }

    // 7: "the form's number"; "-4 there are 8 such forms already"
    private static void formEight() {
        for (int depth = 1; depth <= 6; depth++) {
            BitBlocks x = Made.nested(depth, 2);
            for (int number = 4; number <= 11; number++) {
                x.op(FIXED, 1);
                Check.due("7: form " + number, x.form(), number);
            }
            x.op(FIXED, 1);
            Check.due("7: a ninth", x.form(), -4);
            Check.due("7: a ninth", x.form(), -4);
            x.leave();
            x.enter(1, 2);
            Check.due("7: the first of another block", x.form(), 4);
        }
    }

    /** In INFO, with the words written before it: so many forms more are kept for this target. */
    private static void keep(BitBlocks x, int target, int count, int firstNumber) {
        x.value(target);
        x.record(1, 2);
        for (int i = 0; i < count; i++) {
            x.op(FIXED, 1 + i);
            Check.due("7: kept for " + target, x.form(), firstNumber + i);
        }
    }

    // 7: "in INFO: among those kept for the target, from 4 on"; "a row of KEPT forms, at most 8"
    private static void formEightKept() {
        BitBlocks x = inBlock(0, 2);
        keep(x, 5, 7, 4);
        keep(x, 6, 1, 4);
        keep(x, 5, 1, 11);
        x.op(FIXED, 1);
        Check.due("7: a ninth", x.form(), -4);
        x.drop();
        keep(x, 6, 1, 5);
        x.leave();
        x.enter(0, 8);
        x.value(5);
        x.record(1, 2);
        x.op(FIXED, 1);
        Check.due("7: a ninth in another INFO", x.form(), -4);
        x.drop();
        keep(x, 6, 6, 6);
        x.op(FIXED, 1);
        Check.due("7: a ninth of 6", x.form(), -4);
    }

    // "The new block's forms are the kept ones of its id."; "a row of at most 8 FORMS"
    private static void formKeptAndOwn() {
        for (int kept = 0; kept <= 8; kept++) {
            BitBlocks x = inBlock(0, 2);
            keep(x, 5, kept, 4);
            x.leave();
            x.enter(5, 4);
            for (int number = 4; number <= 11; number++) {
                if (number >= 4 + kept) {
                    Check.due("7: not yet " + number, x.record(0, number), -2);
                    x.op(FIXED, number - 3);
                    Check.due("7: its own form " + number, x.form(), number);
                }
                Check.due("7: it fits", x.record((1 << number - 3) - 1, number), 1 + number);
                Check.due("7: it does not", x.record(1 << number - 3, number), -3);
            }
            x.op(FIXED, 1);
            Check.due("7: a ninth", x.form(), -4);
            x.leave();
            x.enter(5, 4);
            Check.due("7: its own are not kept", x.record(0, 4 + kept), -2);
            Check.due("7: the kept ones are", x.record(0, 3 + kept), kept == 0 ? -2 : 4 + kept);
        }
    }

    private static void formKeptForEachId() {
        for (int id = 1; id <= 63; id++) {
            BitBlocks x = inBlock(0, 2);
            keep(x, id, 1, 4);
            x.leave();
            for (int other = Math.max(1, id - 1); other <= Math.min(63, id + 1); other++) {
                x.enter(other, 3);
                Check.due("7: kept for " + id + ", in " + other, x.record(1, 4),
                        other == id ? 4 : -2);
                x.leave();
            }
            // The forms of a block that stood at the same depth before.
            x.enter(id, 3);
            x.leave();
            x.enter(0, 3);
            Check.due("7: INFO has no forms", x.record(1, 4), -2);
        }
    }

    // 7: "-5 the stream would be longer than 64 words, when each open block is left at once"
    private static void formRoom() {
        int[][] ops = {{FIXED, 1, 9}, {FIXED, 15, 9}, {FIXED, 16, 14}, {CHUNKED, 31, 14},
            {LITERAL, 127, 9}, {LITERAL, 128, 17}, {LITERAL, MAX, 41}};
        for (int depth = 1; depth <= 6; depth++) {
            for (int width = 3; width <= 8; width++) {
                for (int[] op : ops) {
                    int need = width + 5 + op[2];
                    for (int spare = need - 1; spare <= need + 1; spare++) {
                        BitBlocks x = Made.withSpare(depth, width, spare);
                        x.op(op[0], op[1]);
                        roomDue(x, depth, spare, spare >= need ? 6 : -5);
                    }
                }
            }
            // Of width 2: a ROW takes 4 bits, so that the form has 2 + 5 + 4 + 9.
            for (int spare = 18; spare <= 22; spare += 2) {
                BitBlocks x = Made.withSpare(depth, 2, spare);
                x.op(ROW, 0);
                x.op(FIXED, 1);
                roomDue(x, depth, spare, spare >= 20 ? 4 : -5);
            }
        }
    }

    private static void roomDue(BitBlocks x, int depth, int spare, int due) {
        int last = x.word(64 - depth);
        Check.due("7: form() at depth " + depth, x.form(), due);
        if (due < 0) {
            Check.due("7: nothing is written", x.word(64 - depth), last);
        }
        for (int i = 0; i < depth; i++) {
            x.leave();
        }
        Check.due("7: words", x.words(), due < 0 && spare >= 32 ? 63 : 64);
    }

    private static void formRoomInInfo() {
        // Two words: the target takes 8 + 18 bits, LEAVE 8, and so 17 are left for the ops.
        int[][] ops = {{CHUNKED, 16, 4}, {LITERAL, 128, 4}};
        for (int[] op : ops) {
            BitBlocks x = inInfoBehind(60);
            x.op(op[0], op[1]);
            Check.due("7: room in INFO", x.form(), op[2]);
            x.leave();
            Check.due("7: words", x.words(), 64);
        }
        BitBlocks x = inInfoBehind(60);
        x.op(FIXED, 1);
        x.op(FIXED, 1);
        Check.due("7: no room in INFO", x.form(), -5);
        x.drop();
        x.op(FIXED, 1);
        Check.due("7: none was kept", x.form(), 4);
    }

    private static BitBlocks inInfoBehind(int words) {
        BitBlocks x = Made.ofWords(words);
        x.enter(0, 8);
        x.value(1);
        Check.due("7: a target", x.record(1, 2), 26);
        return x;
    }

    // 7: "Refused, first that holds"
    private static void formOrder() {
        BitBlocks x = new BitBlocks();
        Check.due("7: -1 before -2", x.form(), -1);
        x = inBlock(0, 2);
        Check.due("7: -2 before -3", x.form(), -2);
        x.op(ROW, 0);
        Check.due("7: -2 before -3", x.form(), -2);

        x = Made.ofWords(61);
        x.enter(0, 8);
        for (int i = 0; i < 8; i++) {
            x.op(FIXED, 1);
        }
        Check.due("7: -3 before -5", x.form(), -3);

        x = inBlock(0, 2);
        keep(x, 5, 8, 4);
        Check.due("7: -2 before -4", x.form(), -2);
        x.op(LITERAL, 1);
        x.op(ROW, 0);
        Check.due("7: -2 before -4", x.form(), -2);

        x = Made.withSpare(1, 3, 6 * 17);
        Check.due("7: -2 before -5", x.form(), -2);
        for (int number = 6; number <= 11; number++) {
            x.op(FIXED, 1);
            Check.due("7: room for it", x.form(), number);
        }
        Check.due("7: -2 before -4 and -5", x.form(), -2);
        x.op(FIXED, 1);
        Check.due("7: -4 before -5", x.form(), -4);
        x = Made.withSpare(1, 3, 0);
        Check.due("7: -2 before -5", x.form(), -2);
        x.op(FIXED, 1);
        Check.due("7: -5", x.form(), -5);
        x.leave();
        Check.due("7: -1 before all", x.form(), -1);
    }

    // 7: "the prepared ops, which are prepared no more"
    private static void formTakesOnlyOps() {
        for (int id = 0; id <= 1; id++) {
            BitBlocks x = inBlock(id, 3);
            if (id == 0) {
                keep(x, 5, 0, 4);
            }
            for (int i = 0; i < 8; i++) {
                x.op(FIXED, 1);
            }
            for (int i = 0; i < 16; i++) {
                x.value(i);
            }
            Check.due("7: a form", x.form(), 4);
            Check.due("7: no ops", x.form(), -2);
            Check.due("7: the first op", x.op(FIXED, 1), 1);
            Check.due("7: all values", x.value(1), -2);
        }
    }
}
