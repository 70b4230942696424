/** Promises 13 to 20: how words come to the reader, and what it reads from them. */
public final class ReaderTest {
    private static final long BAD = Check.ARGUMENT;
    private static final long STATE = Check.STATE;
    private static final int MAX = Integer.MAX_VALUE;
    private static final int MIN = Integer.MIN_VALUE;
    // An empty block with id 1 and width 2.
    private static final String EMPTY = "10 100000 0100 / #1 00 / ";
    // The beginning of a block with id 1 and width 3, to be one word long.
    private static final String BLOCK = "10 100000 1100 / #1 ";
    private static final String INFO = "10 000000 1100 / #1 ";
    private static final String LEAVE = " 000 / ";

    public static void main(String[] args) {
        promise13();
        promise14();
        promise15();
        promise16();
        promise17();
        promise18Blocks();
        promise18Records();
        promise18Forms();
        promise18KeptForms();
        promise18Chunks();
        promise18Ends();
        promise18BadBlocks();
        promise18BadLengths();
        promise18LargeLengths();
        promise18LargeNumbers();
        promise18BadForms();
        promise18BadRecords();
        promise18BadInfo();
        promise18TooMany();
        promise18AfterAFault();
        promise19();
        promise20();
        Check.end();
    }

    private static void promise13() {
        BitBlocks x = new BitBlocks();
        x.load(5);
        x.enter(1, 2);
        Check.next(x);
        Check.due("13: a block is open", x.copy(), -1);
        Check.due("13: refused, not rewound", Check.next(x), STATE);
        x.leave();
        Check.due("13: copy", x.copy(), 3);
        Check.nextDue("13", x, 1);
        Check.due("13: copy again", x.copy(), 3);
        Check.due("13: rewound", x.level(), 0);
        Check.infoDue("13: rewound", x);
        Check.nextDue("13", x, 1, 2, 0);
        x.enter(2, 2);
        x.leave();
        Check.nextDue("13: the reader's stream is its own", x, 0);
        Check.due("13: copy", x.copy(), 6);
        Check.nextDue("13", x, 1, 2, 1);
        Check.due("13: the second", x.info(0), 2);
        x.clear();
        Check.nextDue("13: the writer is cleared", x, 2, 0);
        Check.due("13: an empty stream", x.copy(), 0);
        Check.nextDue("13", x, 0);
        Check.due("13: nothing is left", x.wipe(), 0);
        Check.due("13: the writer's stream is its own", x.words(), 0);
    }

    private static void promise14() {
        BitBlocks x = new BitBlocks();
        int[] words = Check.words(EMPTY);
        for (int i = 0; i < words.length; i++) {
            Check.due("14: load", x.load(words[i]), i + 1);
        }
        Check.nextDue("14", x, 1);
        Check.due("14: another word", x.load(0), 4);
        Check.due("14: rewound", x.level(), 0);
        Check.infoDue("14: rewound", x);
        Check.nextDue("14", x, 1, 2, BAD, STATE);
        for (int n = 5; n <= 64; n++) {
            Check.due("14: load", x.load(MIN), n);
        }
        Check.nextDue("14", x, 1);
        Check.due("14: one too many", x.load(1), -1);
        Check.due("14: refused, not rewound", x.level(), 1);
        Check.due("14: refused, it still shows", x.info(0), 1);
        Check.nextDue("14", x, 2, BAD);
        Check.due("14: one too many", x.load(1), -1);
        Check.nextDue("14: refused, still faulty", x, STATE);
        Check.due("14: the writer's stream is its own", x.words(), 0);
        Check.due("14: all words", x.wipe(), 64);
        Check.due("14: again from the first", x.load(-1), 1);
    }

    private static void promise15() {
        BitBlocks x = new BitBlocks();
        Check.due("15: no word", x.alter(0, 1), false);
        x = Check.loaded(EMPTY);
        int[] other = Check.words("10 010000 0010 / #1 0000 /");
        Check.nextDue("15", x, 1);
        int[] none = {-1, 3, 4, 63, 64, MAX, MIN};
        for (int i : none) {
            Check.due("15: no word " + i, x.alter(i, 0), false);
        }
        Check.due("15: refused, not rewound", x.level(), 1);
        Check.due("15: refused, it still shows", x.info(0), 1);
        Check.due("15: word 0", x.alter(0, other[0]), true);
        Check.due("15: rewound", x.level(), 0);
        Check.infoDue("15: rewound", x);
        Check.nextDue("15", x, 1);
        Check.infoDue("15: altered", x, 2, 4, 1);
        Check.due("15: the last word", x.alter(2, MIN), true);
        Check.nextDue("15", x, 1, BAD);
        Check.due("15: no word", x.alter(3, 0), false);
        Check.nextDue("15: refused, still faulty", x, STATE);
        Check.due("15: the last word", x.alter(2, 0), true);
        Check.nextDue("15", x, 1, 2, 0);
        Check.due("15: as many words as before", x.wipe(), 3);
        Check.due("15: no word", x.alter(0, 1), false);
    }

    private static void promise16() {
        BitBlocks x = Check.loaded(EMPTY + EMPTY);
        Check.nextDue("16", x, 1);
        Check.due("16: wipe", x.wipe(), 6);
        Check.due("16: rewound", x.level(), 0);
        Check.infoDue("16: rewound", x);
        Check.nextDue("16", x, 0);
        Check.due("16: wipe again", x.wipe(), 0);
        Check.due("16: load", x.load(0), 1);
        Check.nextDue("16", x, BAD);
        Check.due("16: wipe", x.wipe(), 1);
        Check.nextDue("16: no fault", x, 0);
        x.enter(1, 2);
        x.wipe();
        Check.due("16: the writer stays", x.words(), 2);
    }

    private static void promise17() {
        // INFO keeps FIXED 4 for id 1; the block of id 1 has it as its form 4.
        String kept = "10 000000 1100 / #2 010 100000 100000 100000 110 10000 0 100 00100"
                + LEAVE + BLOCK + "001 1010" + LEAVE;
        BitBlocks x = Check.loaded(kept);
        for (int turn = 0; turn < 9; turn++) {
            Check.nextDue("17", x, 1, 4, 3);
            Check.due("17: the kept form is the first each time", x.info(1), 4);
            Check.nextDue("17", x, 2, 1, 4);
            Check.due("17: level", x.level(), 1);
            x.rewind();
            Check.due("17: rewound", x.level(), 0);
            Check.infoDue("17: rewound", x);
        }
        Check.nextDue("17", x, 1, 4, 3);
        x.alter(0, Check.words(BLOCK)[0]);
        x.alter(2, Check.words("001 1010")[0]);
        Check.nextDue("17: nothing is kept", x, 1, BAD, STATE);
        x.rewind();
        Check.due("17: level", x.level(), 0);
        Check.nextDue("17: no fault", x, 1, BAD, STATE, STATE);
        blockFormsAreForgotten();
    }

    private static void blockFormsAreForgotten() {
        BitBlocks x = Check.loaded("10 100000 1100 / #2 110 10000 0 100 00100 001 1010" + LEAVE);
        Check.nextDue("17", x, 1, 3, 4);
        x.rewind();
        Check.nextDue("17", x, 1, 3);
        Check.due("17: the form is the first again", x.info(1), 4);
        Check.nextDue("17", x, 4);
        Check.infoDue("17", x, 5, 4, 0);
    }

    private static void promise18Blocks() {
        BitBlocks x = Check.loaded("10 111111 100000 0001 1000 / #7 "
                + "10000000 000000 0100 / #1 00 / "
                + "10000000 100000 0100 / #1 00 / "
                + "00000000 / " + EMPTY);
        Check.nextDue("18", x, 1);
        Check.infoDue("18: outer", x, 63, 8, 7);
        Check.nextDue("18", x, 1);
        Check.infoDue("18: INFO", x, 0, 2, 1);
        Check.nextDue("18", x, 2);
        Check.infoDue("18: INFO is left", x, 0);
        Check.nextDue("18", x, 1, 2);
        Check.infoDue("18: inner is left", x, 1);
        Check.nextDue("18", x, 2);
        Check.infoDue("18: outer is left", x, 63);
        Check.nextDue("18", x, 1, 2, 0, 0, 0);
    }

    private static void promise18Records() {
        BitBlocks x = Check.loaded("10 100000 1100 / #4 010 000000 000000 "
                + "010 100001 100000 110000 111110 000001 100000 000001 000001 100000"
                + "010 " + Check.chunks(MAX, 6) + " 000000" + LEAVE);
        Check.nextDue("18", x, 1, 4);
        Check.infoDue("18: code 0", x, 0, 2, 0);
        Check.nextDue("18", x, 4);
        Check.infoDue("18: three values", x, 33, 2, 3, 31, 32, 1024);
        Check.nextDue("18", x, 4);
        Check.infoDue("18: the largest code", x, MAX, 2, 0);
        Check.nextDue("18", x, 2, 0);
    }

    private static void promise18Forms() {
        BitBlocks x = Check.loaded("10 100000 1100 / #5 "
                + "110 00100 0 100 11000 1 10010000 0 010 11000 0 100 11111 10000 "
                + "110 11000 1 01000000 0 110 0 100 00100 "
                + "001 101 111 011 100 " + Check.num(MAX, 31)
                + "101 110000 1000 0000 1111 "
                + "101 000000" + LEAVE);
        Check.nextDue("18", x, 1, 3);
        Check.infoDue("18: a form", x, 4, 4);
        Check.nextDue("18", x, 3);
        Check.infoDue("18: a form with a row", x, 3, 5);
        Check.nextDue("18", x, 4);
        Check.infoDue("18: by form 4", x, 5, 4, 3, 9, 27, MAX);
        Check.nextDue("18", x, 4);
        Check.infoDue("18: by form 5", x, 2, 5, 3, 1, 0, 15);
        Check.nextDue("18", x, 4);
        Check.infoDue("18: none in the row", x, 2, 5, 0);
        Check.nextDue("18", x, 2, 0);
    }

    private static void promise18KeptForms() {
        String fixed4 = "0 100 00100 ";
        String fixed5 = "0 100 10100 ";
        // INFO: FIXED 4 for 1, FIXED 5 for 2, FIXED 5 for 1.
        BitBlocks x = Check.loaded("10 000000 0100 / #4 01 100000 100000 100000 11 10000 " + fixed4
                + "01 100000 100000 010000 11 10000 " + fixed5
                + "01 100000 100000 100000 11 10000 " + fixed5 + "00 /"
                + "10 100000 1100 / #9 001 1111 101 11111 110 10000 1 00000000 011 "
                + "100 010000 1100 / #1 001 11111 000 / "
                + "100 000000 0100 / #2 01 100000 100000 100000 11 10000 " + fixed4 + "00 / "
                + "011 000 /"
                + "10 100000 1100 / #1 011 1111 000 /");
        Check.nextDue("18: INFO", x, 1, 4);
        Check.infoDue("18: the target", x, 1, 2, 1, 1);
        Check.nextDue("18: INFO", x, 3);
        Check.infoDue("18: kept", x, 1, 4);
        Check.nextDue("18: INFO", x, 4, 3);
        Check.infoDue("18: kept for another", x, 1, 4);
        Check.nextDue("18: INFO", x, 4, 3);
        Check.infoDue("18: kept", x, 1, 5);
        Check.nextDue("18: a block of id 1", x, 2, 1, 4);
        Check.infoDue("18: by form 4", x, 15, 4, 0);
        Check.nextDue("18", x, 4);
        Check.infoDue("18: by form 5", x, 31, 5, 0);
        Check.nextDue("18: one of its own", x, 3);
        Check.infoDue("18: one of its own", x, 1, 6);
        Check.nextDue("18: by it", x, 4);
        Check.infoDue("18: by it", x, 0, 6, 0);
        Check.nextDue("18: a block of id 2", x, 1, 4);
        Check.infoDue("18: by form 4 of id 2", x, 31, 4, 0);
        Check.nextDue("18: INFO inside", x, 2, 1, 4, 3);
        Check.infoDue("18: one more is kept for id 1", x, 1, 6);
        Check.nextDue("18: the open block has still its own", x, 2, 4);
        Check.infoDue("18: the open block has still its own", x, 0, 6, 0);
        Check.nextDue("18: a new one has the kept one", x, 2, 1, 4);
        Check.infoDue("18: a new one has the kept one", x, 15, 6, 0);
        Check.nextDue("18", x, 2, 0);
    }

    private static void promise18Chunks() {
        StringBuilder zeros = new StringBuilder();
        for (int i = 0; i < 40; i++) {
            zeros.append(" 000001");
        }
        zeros.append(" 000000");
        // The id, the code and the number of values in more chunks than they need.
        BitBlocks x = Check.loaded("10 100001 000000 1101 0001 0000 / #9 010 110001" + zeros
                + " 000001 000000" + LEAVE);
        Check.nextDue("18: chunks", x, 1);
        Check.infoDue("18: chunks", x, 1, 3, 9);
        Check.nextDue("18: chunks", x, 4);
        Check.infoDue("18: chunks", x, 3, 2, 0);
        Check.nextDue("18: chunks", x, 2, 0);

        for (long number : new long[] {MAX, 1L << 31, (1L << 32) - 1, 1L << 32, 1L << 35, 1L << 36,
            1L << 40, 1L << 62}) {
            long due = number <= MAX ? 4 : BAD;
            for (int w = 2; w <= 31; w++) {
                int formBits = 3 + 5 + 4 + (w < 16 ? 5 : 10);
                int recordBits = 3 + Check.chunks(number, w).length();
                int length = (formBits + recordBits + 3 + 31) / 32;
                x = Check.loaded("10 100000 1100 / #" + length + " 110 10000 0 010 "
                        + Check.chunks(w, 5) + "001 " + Check.chunks(number, w) + LEAVE);
                Check.nextDue("18: " + number + " in chunks of " + w, x, 1, 3, due);
                if (number <= MAX) {
                    Check.due("18: the number", x.info(0), number);
                    Check.nextDue("18: in chunks of " + w, x, 2, 0);
                }
            }
            bad("18: the code " + number, BLOCK + "010 " + Check.chunks(number, 6) + " 000000 /",
                    1, due);
            bad("18: the literal " + number, BLOCK + "110 10000 1 " + Check.chunks(number, 8)
                    + " /", 1, number <= MAX ? 3 : BAD);
        }
        // A number that is far too large only by its last chunk.
        bad("18: too large", BLOCK + "010 100001" + zeros.substring(0, 35 * 7) + " 100000 000000 /",
                1, BAD);
        bad("18: chunks without an end", BLOCK + "010 " + "000001 ".repeat(330), 1, BAD);
    }

    private static void bad(String what, String bits, long... want) {
        Check.readDue(what, bits, want);
    }

    private static void promise18Ends() {
        bad("18: ENTER without its length", "10 100000 1100 /", BAD);
        bad("18: an id without an end", "10 " + "000001".repeat(5), BAD);
        bad("18: no LEAVE", BLOCK, 1, BAD);
        // Words that end in a record, a form, and a number: 28 bits before them.
        String record = BLOCK + "010 " + Check.chunks(1 << 14, 6) + " 000000 ";
        bad("18: in the number of the next", record + "010 00", 1, 4, BAD);
        bad("18: in the values", BLOCK + "010 000000 001000 000000 000000", 1, BAD);
        bad("18: in the values of a form", BLOCK + "110 10000 0 100 11110 10000 001 0000000",
                1, 3, BAD);
        bad("18: in the ops", BLOCK + "110 00100 1 00000000 1 00000000", 1, BAD);
        bad("18: in an op", BLOCK + "010 000000 000000 110 10000 1 00000001", 1, 4, BAD);
        bad("18: an outer block is not left", "10 100000 0100 / #4 10 100000 0100 / #1 00 /",
                1, 1, 2, BAD);
        BitBlocks x = Check.loaded(BLOCK + "010 000000 000000");
        Check.nextDue("18: it goes on with another word", x, 1, 4, 2);
        x = Check.loaded("10 100000 1100 / #2 010 000000 000000 010 000000 000000");
        Check.nextDue("18: the LEAVE is cut", x, 1, 4, 4, BAD, STATE);
        x.load(0);
        Check.nextDue("18: it is whole", x, 1, 4, 4, 2, 0);
    }

    private static void promise18BadBlocks() {
        bad("18: LEAVE at depth 0", "00 /", BAD);
        bad("18: PLAIN at depth 0", "01 000000 000000 /", BAD);
        bad("18: FORM at depth 0", "11 10000 1 00000000 /", BAD);
        bad("18: LEAVE at depth 0 again", EMPTY + "00 /", 1, 2, BAD);
        bad("18: id 64", "10 000001 010000 0100 / #1 00 /", BAD);
        bad("18: a large id", "10 " + Check.chunks(MAX, 6) + "0100 / #1 00 /", BAD);
        bad("18: width 0", "10 100000 0000 / #1 00 /", BAD);
        bad("18: width 1", "10 100000 1000 / #1 00 /", BAD);
        bad("18: width 9", "10 100000 1001 1000 / #1 00 /", BAD);
        bad("18: width 8", "10 100000 0001 1000 / #1 00 /", 1, 2, 0);
        bad("18: zeros of ENTER", "10 100000 0100 1 / #1 00 /", BAD);
        bad("18: the last zero of ENTER", "10 100000 0100 " + "0".repeat(19) + "1 #1 00 /", BAD);
        bad("18: zeros of LEAVE", "10 100000 0100 / #1 00 1 /", 1, BAD);
        bad("18: the last zero of LEAVE", "10 100000 0100 / #1 00" + "0".repeat(29) + "1", 1, BAD);
        // Where a word ends with the ENTER or the LEAVE there are no zeros.
        bad("18: ENTER up to the word's end", "10 100000 1100 / #4 010 000000 000000 "
                + "100 100000 0001 1000 #1 00000000 / 000 /", 1, 4, 1, 2, 2, 0);
        bad("18: LEAVE up to the word's end", "10 100000 1100 / #1 "
                + "110 10000 0 100 10010 001 111111111 000 " + EMPTY, 1, 3, 4, 2, 1, 2, 0);
        StringBuilder deep = new StringBuilder();
        for (int i = 0; i < 7; i++) {
            deep.append("10 100000 0100 / #9 ");
        }
        bad("18: depth 7", deep.toString(), 1, 1, 1, 1, 1, 1, BAD);
    }

    private static void promise18BadLengths() {
        for (int length : new int[] {0, 2, 3, MAX - 1, MAX, 257}) {
            BitBlocks x = Check.loaded("10 100000 0100 / #" + length + " 00 / #0 #0");
            Check.nextDue("18: the length is seen at LEAVE", x, 1);
            Check.infoDue("18: length " + length, x, 1, 2, length);
            Check.nextDue("18: length " + length, x, BAD, STATE);
            Check.due("18: level", x.level(), 1);
            Check.infoDue("18: still shown", x, 1, 2, length);
        }
        String outer = "10 100000 0100 / #";
        bad("18: an inner length", outer + "4 10 100000 0100 / #2 00 / 00 /", 1, 1, BAD);
        bad("18: an outer length", outer + "3 10 100000 0100 / #1 00 / 00 /", 1, 1, 2, BAD);
        bad("18: both are right", outer + "4 10 100000 0100 / #1 00 / 00 /", 1, 1, 2, 2, 0);
        bad("18: the second block", EMPTY + "10 100000 0100 / #4 00 /", 1, 2, 1, BAD);
    }

    /** A length that is no number is seen at ENTER, a wrong one only at LEAVE. */
    private static void promise18LargeLengths() {
        for (int length : new int[] {MIN, MIN + 1, MIN + 4, -2, -1}) {
            String large = "/ #" + length + " ";
            bad("18: length " + length, "10 101000 0010 " + large + "0000 /", BAD);
            bad("18: no word behind length " + length, "10 101000 0010 " + large, BAD);
            bad("18: INFO of length " + length, "10 000000 0100 " + large + "00 /", BAD);
            BitBlocks x = Check.loaded("10 010000 1100 / #4 010 110000 100000 111000 "
                    + "100 100000 0100 " + large + "00 / 000 /");
            Check.infoDue("18: none yet", x);
            Check.nextDue("18: an inner length " + length, x, 1, 4, BAD, STATE, STATE);
            Check.due("18: level", x.level(), 1);
            Check.infoDue("18: still the record", x, 3, 2, 1, 7);
            x.rewind();
            Check.nextDue("18: rewound", x, 1, 4, BAD, STATE);
            // The record and the inner ENTER lie in words 2 and 3, the length in word 4.
            x.alter(4, 1);
            Check.nextDue("18: the length is altered", x, 1, 4, 1, 2, BAD);
            x.alter(1, 5);
            Check.nextDue("18: both lengths are right", x, 1, 4, 1, 2, 2, 0);
        }
    }

    /** Each place where chunks are read, with a number that may stand there and with larger ones. */
    private static void promise18LargeNumbers() {
        String form = BLOCK + "110 ";
        String record = BLOCK + "010 ";
        large("an id", "10 ", 1, 6, " 1100 / #1 000 /", 1);
        large("a width", "10 100000 ", 3, 4, " / #1 000 /", 1);
        large("an inner id", BLOCK + "100 ", 1, 6, " 1100 / #1 000 /", 1, 1);
        large("an inner width", BLOCK + "100 100000 ", 3, 4, " / #1 000 /", 1, 1);
        large("a code", record, 1, 6, " 000000", 1, 4);
        large("a number of values", record + "100000 ", 1, 6, " 100000", 1, 4);
        large("no values", record + "100000 ", 0, 6, "", 1, 4);
        large("a value", record + "100000 100000 ", 1, 6, "", 1, 4);
        large("the last value", record + "100000 010000 100000 ", 0, 6, "", 1, 4);
        large("a number of ops", form, 1, 5, " 1 00000000", 1, 3);
        large("a literal", form + "10000 1 ", 0, 8, "", 1, 3);
        large("the w of FIXED", form + "10000 0 100 ", 4, 5, "", 1, 3);
        large("the w of CHUNKED", form + "10000 0 010 ", 4, 5, "", 1, 3);
        large("the w behind a ROW", form + "01000 0 110 0 010 ", 4, 5, "", 1, 3);
        large("how many in a ROW", form + "01000 0 110 0 100 10000 001 ", 1, 6, " 1", 1, 3, 4);
        large("none in a ROW", form + "11000 1 00000000 0 110 0 100 10000 001 ", 0, 6, "", 1, 3, 4);
        for (int w = 2; w <= 31; w++) {
            String op = "0 010 " + Check.chunks(w, 5);
            large("a code in chunks of " + w, form + "10000 " + op + "001 ", 1, w, "", 1, 3, 4);
            large("a value in chunks of " + w, form + "01000 " + op + op + "001 "
                    + Check.chunks(0, w), 1, w, "", 1, 3, 4);
            large("chunks of " + w + " in a ROW", form + "01000 0 110 " + op + "001 010000 "
                    + Check.chunks(1, w), 1, w, "", 1, 3, 4);
        }
        large("a code in INFO", INFO + "010 ", 1, 6, " 100000 100000", 1, 4);
        large("a number of values in INFO", INFO + "010 100000 ", 1, 6, " 100000", 1, 4);
        large("a target", INFO + "010 100000 100000 ", 1, 6, "", 1, 4);
        String target = INFO + "010 100000 100000 100000 110 ";
        large("a number of ops in INFO", target, 1, 5, " 1 00000000", 1, 4, 3);
        large("a literal in INFO", target + "10000 1 ", 1, 8, "", 1, 4, 3);
        large("a w in INFO", target + "10000 0 010 ", 4, 5, "", 1, 4, 3);
    }

    /**
     * With the right number in chunks of w between the bits the answers are these; with one that is
     * larger by 2^31 or more, and so the same in its lowest bits, the last of them is a fault.
     */
    private static void large(String what, String before, int right, int w, String behind,
            long... answers) {
        String rest = behind + " / #0 #0 #0 #0";
        bad("18: right: " + what, before + Check.chunks(right, w) + rest, answers);
        long[] faulty = answers.clone();
        faulty[faulty.length - 1] = BAD;
        for (int high = 31; high <= 62; high++) {
            long number = (1L << high) + right;
            bad("18: " + number + ": " + what, before + Check.chunks(number, w) + rest, faulty);
        }
        long most = ((1L << 31) - 1 << 31) + right;
        bad("18: " + most + ": " + what, before + Check.chunks(most, w) + rest, faulty);
    }

    private static void promise18BadForms() {
        String[] none = {
            "00000",
            "10000 0 000 01000", "10000 0 001 01000", "10000 0 101 01000", "10000 0 011 01000",
            "10000 0 111 01000",
            "10000 0 100 00000", "10000 0 100 00001 01000",
            "10000 0 010 00000", "10000 0 010 10000", "10000 0 010 00001 01000",
            "10000 0 110", "01000 0 110 1 00000000", "01000 0 110 0 110",
            "01000 0 100 01000 0 110", "11000 0 110 0 100 01000 0 100 01000",
            "11000 0 110 0 110 0 100 01000",
            "00100 0 110 0 100 01000 0 110 0 100 01000",
        };
        for (String ops : none) {
            bad("18: no form " + ops, "10 100000 0100 / #2 11 " + ops + "/ #0 #0", 1, BAD);
        }
        String[] forms = {
            "10000 0 100 10000", "10000 0 100 11111 10000", "10000 0 010 01000",
            "10000 0 010 11111 10000", "10000 1 00000000", "01000 0 110 0 100 01000",
            "01000 0 110 0 010 01000", "11000 1 00000000 0 110 0 010 01000",
            "10000 0 100 10001 00000",
        };
        for (String ops : forms) {
            bad("18: a form " + ops, "10 100000 0100 / #2 11 " + ops + "/ #0 #0", 1, 3);
        }
        bad("18: nine ops", "10 100000 0100 / #2 11 10010 " + "1 00000000".repeat(9) + "/ #0 #0",
                1, BAD);
        bad("18: eight ops", "10 100000 0100 / #2 11 00010 " + "1 00000000".repeat(8) + "/ #0 #0",
                1, 3);
        bad("18: very many ops", "10 100000 0100 / #2 11 " + Check.chunks(MAX, 5) + "/ #0 #0",
                1, BAD);
    }

    private static void promise18BadRecords() {
        String row = "01000 0 110 0 100 10000 ";
        String oneAndRow = "11000 0 100 10000 0 110 0 100 10000 ";
        for (int n = 0; n <= 18; n++) {
            String bits = Check.chunks(n, 6) + "1".repeat(n) + "/ #0 #0";
            long first = n >= 1 && n <= 17 ? 4 : BAD;
            bad("18: a row of " + n, BLOCK + "110 " + row + "001 " + bits, 1, 3, first);
            long second = n <= 16 ? 4 : BAD;
            bad("18: one and a row of " + n, BLOCK + "110 " + oneAndRow + "001 1" + bits,
                    1, 3, second);
            String values = Check.chunks(n, 6) + "000000".repeat(n) + "/ #0 #0";
            bad("18: values " + n, BLOCK + "010 000000 " + values, 1, n <= 16 ? 4 : BAD);
        }
        bad("18: very many in a row", BLOCK + "110 " + row + "001 " + Check.chunks(MAX, 6), 1, 3, BAD);
        bad("18: very many values", BLOCK + "010 000000 " + Check.chunks(MAX, 6), 1, BAD);
        bad("18: no form 4", BLOCK + "001 0000 / #0", 1, BAD);
        bad("18: no form 5", BLOCK + "110 " + row + "101 0000 / #0", 1, 3, BAD);
        bad("18: no form 7", BLOCK + "110 " + row + "111 0000 / #0", 1, 3, BAD);
        bad("18: no form 255", "10 100000 0001 1000 / #1 11111111 /", 1, BAD);
        bad("18: another block's form", "10 100000 1100 / #9 110 " + row
                + "100 100000 1100 / #1 001 1000 /", 1, 3, 1, BAD);
        bad("18: the form of a block that was left", "10 100000 1100 / #1 110 " + row + LEAVE
                + "10 100000 1100 / #1 001 100000 1" + LEAVE, 1, 3, 2, 1, BAD);
    }

    private static void promise18BadInfo() {
        String target = "010 100000 100000 100000 ";
        bad("18: ENTER in INFO", INFO + "100 100000 1100 / #1 000 /", 1, BAD);
        bad("18: INFO in INFO", INFO + "100 000000 1100 / #1 000 /", 1, BAD);
        bad("18: no value", INFO + "010 100000 000000 /", 1, BAD);
        bad("18: code 0", INFO + "010 000000 100000 100000 /", 1, BAD);
        bad("18: code 2", INFO + "010 010000 100000 100000 /", 1, BAD);
        bad("18: two values", INFO + "010 100000 010000 100000 100000 /", 1, BAD);
        bad("18: target 0", INFO + "010 100000 100000 000000 /", 1, BAD);
        bad("18: target 64", INFO + "010 100000 100000 000001 010000 /", 1, BAD);
        bad("18: target 63", INFO + "010 100000 100000 111111 100000" + LEAVE, 1, 4, 2, 0);
        bad("18: no target", INFO + "110 10000 1 00000000" + LEAVE, 1, BAD);
        bad("18: a target", "10 000000 1100 / #2 " + target + "110 10000 1 00000000" + LEAVE,
                1, 4, 3, 2, 0);
        bad("18: a record by form 4 in INFO", INFO + target + "110 10000 1 10000000 001 / #0",
                1, 4, 3, BAD);
        bad("18: the next INFO has no target", INFO + target + LEAVE
                + INFO + "110 10000 1 00000000" + LEAVE, 1, 4, 2, 1, BAD);
        bad("18: no form in INFO", INFO + target + "110 00000 / #0", 1, 4, BAD);
    }

    private static void promise18TooMany() {
        String form = "110 10000 1 00000000 ";
        bad("18: eight forms", "10 100000 1100 / #5 " + form.repeat(8) + LEAVE,
                1, 3, 3, 3, 3, 3, 3, 3, 3, 2, 0);
        bad("18: nine forms", "10 100000 1100 / #5 " + form.repeat(9) + LEAVE,
                1, 3, 3, 3, 3, 3, 3, 3, 3, BAD);
        String target = "010 100000 100000 100000 ";
        String other = "010 100000 100000 010000 ";
        bad("18: eight kept forms", "10 000000 1100 / #7 " + target + form.repeat(8) + other + form
                + LEAVE, 1, 4, 3, 3, 3, 3, 3, 3, 3, 3, 4, 3, 2, 0);
        bad("18: nine kept forms", "10 000000 1100 / #6 " + target + form.repeat(9) + LEAVE,
                1, 4, 3, 3, 3, 3, 3, 3, 3, 3, BAD);
        bad("18: eight kept and one of its own", "10 000000 1100 / #5 " + target + form.repeat(8)
                + LEAVE + BLOCK + form + LEAVE, 1, 4, 3, 3, 3, 3, 3, 3, 3, 3, 2, 1, BAD);
        bad("18: by the eighth kept form", "10 000000 0010 / #6 0100 100000 100000 100000 "
                + "1100 10000 1 00000000 ".repeat(8) + "0000 / 10 100000 0010 / #1 1101 0000 / ",
                1, 4, 3, 3, 3, 3, 3, 3, 3, 3, 2, 1, 4, 2, 0);
    }

    private static void promise18AfterAFault() {
        BitBlocks x = Check.loaded(BLOCK + "010 110000 100000 010000 001 / #0 #0 #0");
        Check.nextDue("18", x, 1, 4, BAD, STATE, STATE, STATE);
        Check.due("18: level", x.level(), 1);
        Check.infoDue("18: still the record", x, 3, 2, 1, 2);
        x.rewind();
        Check.nextDue("18: rewound", x, 1, 4, BAD, STATE);
        x.alter(0, x.word(0));
        Check.nextDue("18: altered", x, BAD, STATE);
        x.load(7);
        Check.nextDue("18: loaded", x, BAD, STATE);
        Check.due("18: copied", x.copy(), 0);
        Check.nextDue("18: copied", x, 0);

        // A record that is found faulty at its last value leaves what is shown.
        x = Check.loaded("10 100000 1100 / #3 010 110000 010000 100000 010000 "
                + "010 111000 010000 111000 " + Check.chunks(1L << 31, 6) + "/");
        Check.nextDue("18", x, 1, 4, BAD);
        Check.infoDue("18: the record before", x, 3, 2, 2, 1, 2);
    }

    private static void promise19() {
        BitBlocks x = new BitBlocks();
        Check.infoDue("19: none yet", x);
        Check.nextDue("19", x, 0);
        Check.infoDue("19: it answered 0", x);
        StringBuilder values = new StringBuilder();
        for (int k = 0; k < 16; k++) {
            values.append(Check.chunks(k + 1, 6));
        }
        x = Check.loaded("10 100000 1100 / #5 110 10000 0 100 00100 001 1111 010 010000 000010"
                + values + LEAVE);
        Check.infoDue("19: none yet", x);
        Check.nextDue("19", x, 1);
        Check.infoDue("19: ENTER", x, 1, 3, 5);
        Check.nextDue("19", x, 3);
        Check.infoDue("19: FORM", x, 1, 4);
        Check.nextDue("19", x, 4);
        Check.infoDue("19: by a form", x, 15, 4, 0);
        Check.nextDue("19", x, 4);
        Check.infoDue("19: sixteen values", x, 2, 2, 16, 1, 2, 3, 4, 5, 6, 7, 8, 9, 10, 11, 12, 13,
                14, 15, 16);
        Check.nextDue("19", x, 2);
        Check.infoDue("19: LEAVE", x, 1);
        Check.nextDue("19", x, 0);
        Check.infoDue("19: it answered 0", x);
        x.rewind();
        Check.nextDue("19", x, 1);
        x.rewind();
        Check.infoDue("19: rewound", x);
        x.enter(1, 2);
        Check.infoDue("19: the writer does not show", x);
    }

    private static void promise20() {
        StringBuilder deep = new StringBuilder();
        StringBuilder out = new StringBuilder();
        for (int i = 1; i <= 6; i++) {
            deep.append("10 100000 0100 / #").append(1 + 3 * (6 - i)).append(' ');
            out.append("00 /");
        }
        BitBlocks x = Check.loaded(deep.toString() + out + "00 /");
        Check.due("20: level", x.level(), 0);
        for (int i = 1; i <= 6; i++) {
            Check.nextDue("20", x, 1);
            Check.due("20: in", x.level(), i);
        }
        for (int i = 5; i >= 0; i--) {
            Check.nextDue("20", x, 2);
            Check.due("20: out", x.level(), i);
        }
        Check.nextDue("20", x, BAD, STATE);
        Check.due("20: after a fault", x.level(), 0);
        x.enter(1, 2);
        Check.due("20: the writer's is another", x.level(), 0);
    }
}
