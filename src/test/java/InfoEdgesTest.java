/**
 * Promises 19 and 20, sentence by sentence: what each boundary asks for on it, one step inside it
 * and one step outside it.
 */
public final class InfoEdgesTest {
    private static final int FIXED = 1;
    private static final long BAD = Check.ARGUMENT;
    private static final long STATE = Check.STATE;
    private static final int MAX = Integer.MAX_VALUE;

    public static void main(String[] args) {
        enter();
        leave();
        form();
        formInInfo();
        plain();
        byForm();
        shorterBehindLonger();
        noneYet();
        behindTheEnd();
        behindAFault();
        levels();
        levelBehindAFault();
        Check.end();
    }

    // 19: "ENTER: i = 0 the id, 1 the width, 2 the length.", "-1 for all else"
    private static void enter() {
        int[] lengths = {0, 1, 2, 62, 63, 64, MAX - 1, MAX};
        for (int id : new int[] {0, 1, 31, 32, 62, 63}) {
            for (int width = 2; width <= 8; width++) {
                for (int length : lengths) {
                    BitBlocks x = Check.loaded("10" + Check.chunks(id, 6) + Check.chunks(width, 4)
                            + "/ #" + length);
                    Check.nextDue("19: ENTER", x, 1);
                    Check.infoDue("19: ENTER", x, id, width, length);
                }
            }
        }
    }

    // 19: "LEAVE: 0 the id."
    private static void leave() {
        for (int id : new int[] {0, 1, 31, 32, 62, 63}) {
            BitBlocks x = new BitBlocks();
            int outer = id == 63 ? 1 : 63 - id;
            x.enter(outer, 2);
            x.enter(id, 2);
            x.leave();
            x.leave();
            x.copy();
            Check.nextDue("19: LEAVE", x, 1, 1, 2);
            Check.infoDue("19: the inner LEAVE", x, id);
            Check.nextDue("19: LEAVE", x, 2);
            Check.infoDue("19: the outer LEAVE", x, outer);
        }
    }

    // 19: "FORM: 0 the number of ops, 1 the number it has"
    private static void form() {
        BitBlocks x = new BitBlocks();
        x.enter(1, 2);
        for (int ops = 1; ops <= 8; ops++) {
            for (int i = 0; i < ops; i++) {
                x.op(FIXED, 1);
            }
            x.form();
        }
        x.leave();
        x.copy();
        Check.nextDue("19: a block", x, 1);
        for (int ops = 1; ops <= 8; ops++) {
            Check.nextDue("19: FORM", x, 3);
            Check.infoDue("19: FORM of " + ops, x, ops, 3 + ops);
        }
    }

    // 19: "(in INFO: among those kept)"
    private static void formInInfo() {
        BitBlocks x = new BitBlocks();
        x.enter(5, 3);
        x.op(FIXED, 1);
        x.form();
        x.enter(0, 2);
        int[][] kept = {{5, 4}, {5, 5}, {63, 4}, {5, 6}, {1, 4}, {63, 5}};
        for (int[] one : kept) {
            x.value(one[0]);
            x.record(1, 2);
            x.op(FIXED, 1);
            x.form();
        }
        x.leave();
        x.op(FIXED, 1);
        x.form();
        x.enter(5, 3);
        x.op(FIXED, 1);
        x.form();
        x.leave();
        x.leave();
        x.copy();
        Check.nextDue("19: a form of 5", x, 1, 3);
        Check.infoDue("19: a form of 5", x, 1, 4);
        Check.nextDue("19: INFO", x, 1);
        for (int[] one : kept) {
            Check.nextDue("19: a target", x, 4);
            Check.due("19: the target", x.info(3), one[0]);
            Check.nextDue("19: a kept form", x, 3);
            Check.infoDue("19: kept for " + one[0], x, 1, one[1]);
        }
        Check.nextDue("19: a form of the open block", x, 2, 3);
        Check.infoDue("19: a form of the open block", x, 1, 5);
        Check.nextDue("19: a form of a new one", x, 1, 3);
        Check.infoDue("19: a form of a new one", x, 1, 7);
    }

    // 19: "Record: 0 the code, 1 the form (2 for PLAIN), 2 the number of values, 3 + k value k."
    private static void plain() {
        for (int count = 0; count <= 16; count++) {
            for (int code : new int[] {0, 1, MAX}) {
                BitBlocks x = new BitBlocks();
                x.enter(1, 2);
                int[] due = recordDue(code, 2, count);
                for (int k = 0; k < count; k++) {
                    x.value(due[3 + k]);
                }
                x.record(code, 2);
                x.leave();
                x.copy();
                Check.nextDue("19: a record", x, 1, 4);
                Check.infoDue("19: values " + count, x, due);
            }
        }
    }

    private static int[] recordDue(int code, int form, int count) {
        int[] due = new int[3 + count];
        due[0] = code;
        due[1] = form;
        due[2] = count;
        for (int k = 0; k < count; k++) {
            due[3 + k] = k % 3 == 0 ? MAX - k : k;
        }
        return due;
    }

    private static void byForm() {
        for (int count = 0; count <= 16; count++) {
            for (int form = 4; form <= 11; form++) {
                BitBlocks x = new BitBlocks();
                x.enter(1, 4);
                for (int i = 4; i <= form; i++) {
                    x.op(3, 0);
                    x.op(FIXED, 31);
                    x.form();
                }
                int[] due = recordDue(MAX, form, count);
                for (int k = 0; k < count; k++) {
                    x.value(due[3 + k]);
                }
                Check.due("19: by form " + form, x.record(MAX, form), 4 + 6 + 31 * (count + 1));
                x.leave();
                x.copy();
                Check.nextDue("19: a block", x, 1);
                for (int i = 4; i <= form; i++) {
                    Check.nextDue("19: a form", x, 3);
                }
                Check.nextDue("19: a record", x, 4);
                Check.infoDue("19: by form " + form, x, due);
            }
        }
    }

    // 19: "-1 for all else": nothing is left of what was read before
    private static void shorterBehindLonger() {
        BitBlocks x = new BitBlocks();
        x.enter(7, 3);
        fullRecord(x);
        x.record(3, 2);
        fullRecord(x);
        x.op(FIXED, 1);
        x.form();
        fullRecord(x);
        x.enter(6, 2);
        fullRecord(x);
        x.leave();
        x.leave();
        x.copy();
        Check.nextDue("19", x, 1, 4, 4);
        Check.infoDue("19: a record without values", x, 3, 2, 0);
        Check.nextDue("19", x, 4, 3);
        Check.infoDue("19: a form", x, 1, 4);
        Check.nextDue("19", x, 4, 1);
        Check.infoDue("19: a block", x, 6, 2, 4);
        Check.nextDue("19", x, 4, 2);
        Check.infoDue("19: it is left", x, 6);
        Check.nextDue("19", x, 2);
        Check.infoDue("19: the outer one is left", x, 7);
    }

    private static void fullRecord(BitBlocks x) {
        for (int i = 0; i < 16; i++) {
            x.value(9);
        }
        x.record(9, 2);
    }

    // 19: "if there was none since the reader was rewound last"
    private static void noneYet() {
        Check.infoDue("19: new", new BitBlocks());
        BitBlocks x = new BitBlocks();
        x.enter(1, 2);
        fullRecord(x);
        x.leave();
        Check.infoDue("19: before copy()", x);
        x.copy();
        Check.infoDue("19: behind copy()", x);
        Check.nextDue("19", x, 1, 4);
        x.rewind();
        Check.infoDue("19: behind rewind()", x);
        Check.nextDue("19", x, 1, 4);
        x.alter(1, 4);
        Check.infoDue("19: behind alter()", x);
        Check.nextDue("19", x, 1, 4);
        x.load(0);
        Check.infoDue("19: behind load()", x);
        Check.nextDue("19", x, 1, 4);
        x.copy();
        Check.infoDue("19: behind copy()", x);
        Check.nextDue("19", x, 1, 4);
        x.wipe();
        Check.infoDue("19: behind wipe()", x);
        // The first next() throws: there was still none that did not.
        x.load(0);
        Check.nextDue("19", x, BAD);
        Check.infoDue("19: a fault at the beginning", x);
        Check.nextDue("19", x, STATE);
        Check.infoDue("19: a fault at the beginning", x);
    }

    // 19: "or it answered 0"
    private static void behindTheEnd() {
        BitBlocks x = new BitBlocks();
        Check.nextDue("19: no words", x, 0);
        Check.infoDue("19: no words", x);
        x.enter(1, 2);
        x.leave();
        x.copy();
        Check.nextDue("19", x, 1, 2);
        Check.infoDue("19: before the end", x, 1);
        Check.nextDue("19", x, 0);
        Check.infoDue("19: at the end", x);
        Check.nextDue("19", x, 0);
        Check.infoDue("19: at the end again", x);
    }

    // 19: "Of what the latest next() that threw nothing answered"
    private static void behindAFault() {
        String[] items = {"", "010 110000 100000 010000", "110 10000 0 100 10000",
            "100 010000 1100 / #1 000 / "};
        int[][] due = {{1, 3, 9}, {3, 2, 1, 2}, {1, 4}, {2}};
        long[][] answers = {{1}, {1, 4}, {1, 3}, {1, 1, 2}};
        String[] faults = {"111", "110 00000", "010 100000 100010", "000 1", "000",
            "100 100000 0000 / #0 ", "100 100000 0100 / #-1 ", "010 111000 100000"
            + Check.chunks(1L << 31, 6), "110 01000 0 100 10000 0 000"};
        for (int i = 0; i < items.length; i++) {
            for (String fault : faults) {
                BitBlocks x = Check.loaded("10 100000 1100 / #9 " + items[i] + fault + "/");
                Check.nextDue("19: before the fault", x, answers[i]);
                Check.infoDue("19: before the fault", x, due[i]);
                Check.nextDue("19: the fault " + fault, x, BAD);
                Check.infoDue("19: behind the fault " + fault, x, due[i]);
                Check.nextDue("19: the fault " + fault, x, STATE, STATE);
                Check.infoDue("19: behind the fault " + fault, x, due[i]);
                Check.due("20: level", x.level(), 1);
            }
        }
    }

    // 20: "The reader's depth"
    private static void levels() {
        BitBlocks x = new BitBlocks();
        for (int depth = 1; depth <= 6; depth++) {
            x.enter(depth == 6 ? 0 : depth, 3);
            Check.due("20: the writer's depth is another", x.level(), 0);
            if (depth < 6) {
                x.record(1, 2);
                x.op(FIXED, 1);
                x.form();
            }
        }
        for (int depth = 6; depth >= 1; depth--) {
            x.leave();
        }
        x.copy();
        Check.due("20: at first", x.level(), 0);
        for (int depth = 1; depth <= 6; depth++) {
            Check.nextDue("20: in", x, 1);
            Check.due("20: in", x.level(), depth);
            if (depth < 6) {
                Check.nextDue("20: a record and a form", x, 4, 3);
                Check.due("20: a record and a form", x.level(), depth);
            }
        }
        for (int depth = 5; depth >= 0; depth--) {
            Check.nextDue("20: out", x, 2);
            Check.due("20: out", x.level(), depth);
        }
        Check.nextDue("20: the end", x, 0);
        Check.due("20: the end", x.level(), 0);
    }

    // 20: "after an exception: what it was before that call"
    private static void levelBehindAFault() {
        for (int depth = 0; depth <= 6; depth++) {
            String open = "10 100000 0100 / #9 ".repeat(depth);
            String[] faults = {"10 100000 0100 1 / #1", "10 100000 0100 / #-1 ",
                "10 100000 1000 / #1 00 /", "00 1 /", "00 /", "01 000000 111110 /", "11 00000 /",
                "10 100000 0100 /"};
            for (String fault : faults) {
                BitBlocks x = Check.loaded(open + fault);
                for (int i = 1; i <= depth; i++) {
                    Check.nextDue("20: in", x, 1);
                }
                Check.nextDue("20: the fault " + fault, x, BAD);
                Check.due("20: behind it", x.level(), depth);
                Check.nextDue("20: the fault " + fault, x, STATE);
                Check.due("20: behind it", x.level(), depth);
                x.rewind();
                Check.due("20: rewound", x.level(), 0);
            }
        }
    }
}
