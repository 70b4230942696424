import java.util.function.Consumer;

/**
 * Promises 13 to 17, sentence by sentence: what each boundary asks for on it, one step inside it and
 * one step outside it.
 */
public final class CarryEdgesTest {
    private static final int FIXED = 1;
    private static final long BAD = Check.ARGUMENT;
    private static final long STATE = Check.STATE;
    private static final int MAX = Integer.MAX_VALUE;
    private static final int MIN = Integer.MIN_VALUE;
    // An empty block with id 1 and width 2.
    private static final String EMPTY = "10 100000 0100 / #1 00 / ";

    public static void main(String[] args) {
        copyDepth();
        copyWords();
        copyInsteadOfOthers();
        copyIsApart();
        loadCount();
        loadIsBehind();
        loadAnyWord();
        alterIndex();
        alterOneWord();
        wipeCount();
        rewindPlaces();
        eachRewinds();
        refusedDoNotRewind();
        writerDoesNotRewind();
        readerLeavesTheWriter();
        rewoundKeepsNothing();
        Check.end();
    }

    // 13: "-1 if the writer's depth is not 0"
    private static void copyDepth() {
        BitBlocks x = new BitBlocks();
        Check.due("13: depth 0", x.copy(), 0);
        for (int depth = 1; depth <= 6; depth++) {
            x.enter(depth == 6 ? 0 : 1, 2);
            Check.due("13: depth " + depth, x.copy(), -1);
        }
        for (int depth = 5; depth >= 1; depth--) {
            x.leave();
            Check.due("13: depth " + depth, x.copy(), -1);
        }
        x.leave();
        Check.due("13: depth 0", x.copy(), 18);
        x.enter(1, 2);
        Check.due("13: depth 1", x.copy(), -1);
        x.clear();
        Check.due("13: cleared", x.copy(), 0);
    }

    // 13: "how many words"
    private static void copyWords() {
        for (int n : new int[] {3, 4, 62, 63, 64}) {
            BitBlocks x = Made.ofWords(n);
            Check.due("13: words", x.copy(), n);
            Check.due("13: the last word is there", x.alter(n - 1, x.word(n - 1)), true);
            Check.due("13: none behind it", x.alter(n, 0), false);
            long answer = 1;
            for (int i = 0; i < 90 && answer > 0 && answer <= 4; i++) {
                answer = Check.next(x);
            }
            Check.due("13: it is read to its end", answer, 0);
            x.rewind();
            Check.nextDue("13: it is read", x, 1);
            Check.infoDue("13: it is read", x, 1, 2, n - 2);
            Check.due("13: words of the reader", x.wipe(), n);
            Check.due("13: words of the writer", x.words(), n);
        }
        BitBlocks x = new BitBlocks();
        Check.due("13: none", x.copy(), 0);
        Check.nextDue("13: none", x, 0);
    }

    // 13: "The reader's stream becomes the writer's"
    private static void copyInsteadOfOthers() {
        for (int had = 0; had <= 64; had++) {
            BitBlocks x = new BitBlocks();
            for (int i = 0; i < had; i++) {
                x.load(-1);
            }
            x.enter(2, 3);
            x.leave();
            Check.due("13: instead of " + had, x.copy(), 3);
            Check.nextDue("13: instead of " + had, x, 1, 2, 0);
            Check.due("13: the next word is the fourth", x.load(-1), 4);
            Check.nextDue("13: the fourth word", x, 1, 2, BAD);
            x.clear();
            Check.due("13: nothing instead", x.copy(), 0);
            Check.nextDue("13: nothing instead", x, 0);
            Check.due("13: the first word", x.load(-1), 1);
        }
    }

    private static void copyIsApart() {
        BitBlocks x = new BitBlocks();
        x.enter(2, 3);
        x.leave();
        x.copy();
        x.enter(3, 3);
        x.leave();
        Check.nextDue("13: the writer goes on", x, 1, 2, 0);
        x.copy();
        x.alter(0, -1);
        x.load(5);
        x.wipe();
        Check.streamDue("13: the reader's words are altered", x,
                "10 010000 1100 / #1 / 000 / 10 110000 1100 / #1 / 000 /");
        Check.due("13: again", x.copy(), 6);
        Check.nextDue("13: again", x, 1, 2, 1, 2, 0);
    }

    // 14: "how many words there are; -1 if there are 64"
    private static void loadCount() {
        BitBlocks x = new BitBlocks();
        for (int n = 1; n <= 64; n++) {
            Check.due("14: word " + n, x.load(n), n);
        }
        Check.due("14: a 65th", x.load(65), -1);
        Check.due("14: a 65th", x.load(0), -1);
        Check.due("14: 64 words", x.wipe(), 64);
        Check.due("14: the first", x.load(1), 1);

        BitBlocks full = Made.ofWords(64);
        full.copy();
        Check.due("14: behind 64 copied ones", full.load(0), -1);
        BitBlocks last = Made.ofWords(63);
        last.copy();
        Check.due("14: behind 63 copied ones", last.load(0), 64);
        Check.due("14: a 65th", last.load(0), -1);
    }

    // 14: "Puts a word behind the reader's stream"
    private static void loadIsBehind() {
        // Blocks of one empty word each: 21 of them have 63 words.
        BitBlocks x = new BitBlocks();
        int[] words = Check.words(EMPTY);
        for (int n = 0; n < 63; n++) {
            x.load(words[n % 3]);
        }
        for (int n = 0; n < 21; n++) {
            Check.nextDue("14: block " + n, x, 1, 2);
        }
        Check.nextDue("14: the end", x, 0);
        Check.due("14: the last word", x.load(words[0]), 64);
        for (int n = 0; n < 21; n++) {
            Check.nextDue("14: block " + n, x, 1, 2);
        }
        Check.nextDue("14: the last word is read", x, BAD);
    }

    private static void loadAnyWord() {
        for (int length : new int[] {0, 1, 2, MAX - 1, MAX, MIN, MIN + 1, -2, -1}) {
            BitBlocks x = new BitBlocks();
            x.load(Check.words(EMPTY)[0]);
            Check.due("14: word " + length, x.load(length), 2);
            Check.nextDue("14: word " + length, x, length < 0 ? BAD : 1);
            Check.due("14: word " + length, x.info(2), length < 0 ? -1 : length);
        }
    }

    // 15: "true; false if there is none"
    private static void alterIndex() {
        for (int size : new int[] {0, 1, 2, 3, 62, 63, 64}) {
            BitBlocks x = new BitBlocks();
            for (int i = 0; i < size; i++) {
                x.load(0);
            }
            for (int i = -2; i <= 66; i++) {
                Check.due("15: word " + i + " of " + size, x.alter(i, i), i >= 0 && i < size);
            }
            for (int i : new int[] {MIN, MIN + 1, -64, 128, MAX - 1, MAX}) {
                Check.due("15: word " + i + " of " + size, x.alter(i, 0), false);
            }
            Check.due("15: as many as before", x.wipe(), size);
            Check.due("15: wiped", x.alter(0, 0), false);
        }
    }

    // 15: "Word i of the reader's stream becomes another"
    private static void alterOneWord() {
        // 21 blocks of id 1; the head of one of them after the other gets the id 2.
        int[] one = Check.words(EMPTY);
        int two = Check.words("10 010000 0100")[0];
        for (int other = 0; other < 21; other++) {
            BitBlocks x = new BitBlocks();
            for (int n = 0; n < 63; n++) {
                x.load(one[n % 3]);
            }
            Check.due("15: alter", x.alter(3 * other, two), true);
            for (int n = 0; n < 21; n++) {
                Check.nextDue("15: block " + n, x, 1);
                Check.due("15: the id of block " + n, x.info(0), n == other ? 2 : 1);
                Check.nextDue("15: block " + n, x, 2);
            }
            Check.nextDue("15: the end", x, 0);
        }
        BitBlocks full = new BitBlocks();
        for (int n = 0; n < 64; n++) {
            full.load(one[n % 3]);
        }
        Check.due("15: the last of 64", full.alter(63, 0), true);
        for (int n = 0; n < 21; n++) {
            Check.nextDue("15: block " + n, full, 1, 2);
        }
        Check.nextDue("15: the last of 64", full, BAD);
    }

    // 16: "The reader's stream becomes empty ...: how many words it had"
    private static void wipeCount() {
        for (int size = 0; size <= 64; size++) {
            BitBlocks x = new BitBlocks();
            for (int i = 0; i < size; i++) {
                x.load(-1);
            }
            Check.due("16: wipe of " + size, x.wipe(), size);
            Check.nextDue("16: it is empty", x, 0);
            Check.due("16: wipe of none", x.wipe(), 0);
            Check.due("16: no word", x.alter(0, 1), false);
            Twins.alike("16: wiped", x, new BitBlocks());
        }
        BitBlocks x = Made.ofWords(64);
        x.copy();
        Check.due("16: copied words", x.wipe(), 64);
        Check.due("16: the writer's stay", x.words(), 64);
    }

    // 17: "The reader goes to the beginning"
    private static void rewindPlaces() {
        BitBlocks none = new BitBlocks();
        none.rewind();
        Twins.alike("17: nothing to rewind", none, new BitBlocks());
        for (int n = 0; n <= ANSWERS.length + 2; n++) {
            BitBlocks x = keeping();
            for (int i = 0; i < n; i++) {
                Check.due("17: next() number " + i, Check.next(x),
                        i < ANSWERS.length ? ANSWERS[i] : 0);
            }
            x.rewind();
            rewoundDue("17: behind " + n, x);
        }
    }

    // What next() answers for keeping().
    private static final long[] ANSWERS = {1, 4, 3, 3, 2, 1, 4, 3, 4, 2};

    /** INFO keeps FIXED 1 and FIXED 2 for id 1; a block of id 1 has a record and a form more. */
    private static BitBlocks keeping() {
        BitBlocks x = new BitBlocks();
        x.enter(0, 2);
        x.value(1);
        x.record(1, 2);
        x.op(FIXED, 1);
        x.form();
        x.op(FIXED, 2);
        x.form();
        x.leave();
        x.enter(1, 3);
        x.record(3, 5);
        x.op(FIXED, 3);
        x.form();
        x.record(7, 6);
        x.leave();
        Check.due("a stream that keeps forms", x.copy(), 7);
        return x;
    }

    private static void rewoundDue(String what, BitBlocks x) {
        Check.due(what + ": level", x.level(), 0);
        Check.infoDue(what, x);
        Check.nextDue(what, x, 1);
        Check.infoDue(what, x, 0, 2, 2);
        Check.nextDue(what, x, 4, 3);
        Check.infoDue(what + ": the first kept form", x, 1, 4);
        Check.nextDue(what, x, 3);
        Check.infoDue(what + ": the second", x, 1, 5);
        Check.nextDue(what, x, 2, 1, 4);
        Check.infoDue(what + ": by the second", x, 3, 5, 0);
        Check.nextDue(what, x, 3);
        Check.infoDue(what + ": the third form", x, 1, 6);
        Check.nextDue(what, x, 4, 2, 0);
    }

    /** The reader has found a fault in the last LEAVE: word 5 tells a wrong length. */
    private static BitBlocks faulty() {
        BitBlocks x = keeping();
        x.alter(5, 2);
        Check.nextDue("a fault", x, 1, 4, 3, 3, 2, 1, 4, 3, 4, BAD, STATE);
        Check.due("a fault: level", x.level(), 1);
        return x;
    }

    // 13 to 17: each of them rewinds, at each place and behind a fault.
    private static void eachRewinds() {
        for (int n = 0; n <= ANSWERS.length + 1; n++) {
            int calls = n;
            Consumer<BitBlocks> some = x -> {
                for (int i = 0; i < calls; i++) {
                    Check.next(x);
                }
            };
            eachRewinds("behind " + n, some);
        }
        BitBlocks x = faulty();
        x.rewind();
        Check.due("17: level", x.level(), 0);
        Check.infoDue("17: rewound", x);
        Check.nextDue("17: the fault is found again", x, 1, 4, 3, 3, 2, 1, 4, 3, 4, BAD, STATE);
        x = faulty();
        Check.due("13: copy", x.copy(), 7);
        rewoundDue("13: no fault", x);
        x = faulty();
        Check.due("14: load", x.load(0), 8);
        Check.due("14: level", x.level(), 0);
        Check.nextDue("14: the fault is found again", x, 1, 4, 3, 3, 2, 1, 4, 3, 4, BAD, STATE);
        x = faulty();
        Check.due("15: alter", x.alter(5, 1), true);
        rewoundDue("15: no fault", x);
        x = faulty();
        Check.due("16: wipe", x.wipe(), 7);
        Check.due("16: level", x.level(), 0);
        Check.infoDue("16: rewound", x);
        Check.nextDue("16: no fault", x, 0);
    }

    private static void eachRewinds(String what, Consumer<BitBlocks> some) {
        BitBlocks x = keeping();
        some.accept(x);
        Check.due("13: copy", x.copy(), 7);
        rewoundDue("13: " + what, x);

        x = keeping();
        some.accept(x);
        Check.due("14: load", x.load(0), 8);
        Check.due("14: level", x.level(), 0);
        Check.infoDue("14: " + what, x);
        Check.nextDue("14: " + what, x, 1, 4, 3, 3, 2, 1, 4, 3, 4, 2, BAD);

        x = keeping();
        some.accept(x);
        Check.due("15: the same word", x.alter(6, x.word(6)), true);
        rewoundDue("15: " + what, x);

        x = keeping();
        some.accept(x);
        Check.due("16: wipe", x.wipe(), 7);
        Check.due("16: level", x.level(), 0);
        Check.infoDue("16: " + what, x);
        Check.nextDue("16: " + what, x, 0);
    }

    // "A call that ... is refused changes nothing": the reader stays at its place.
    private static void refusedDoNotRewind() {
        BitBlocks x = keeping();
        x.enter(1, 2);
        for (long answer : ANSWERS) {
            Check.nextDue("13, 15: not rewound", x, answer);
            int level = x.level();
            int first = x.info(0);
            Check.due("13: refused", x.copy(), -1);
            Check.due("15: refused", x.alter(7, 0), false);
            Check.due("15: refused", x.alter(-1, 0), false);
            Check.due("13, 15: level", x.level(), level);
            Check.due("13, 15: info(0)", x.info(0), first);
        }
        Check.nextDue("13, 15: not rewound", x, 0);

        x = keeping();
        for (int n = 8; n <= 64; n++) {
            x.load(0);
        }
        for (long answer : ANSWERS) {
            Check.nextDue("14: not rewound", x, answer);
            int level = x.level();
            int first = x.info(0);
            Check.due("14: refused", x.load(0), -1);
            Check.due("14: level", x.level(), level);
            Check.due("14: info(0)", x.info(0), first);
        }
        Check.nextDue("14: not rewound", x, BAD);
        Check.due("14: refused", x.load(0), -1);
        Check.nextDue("14: the fault stays", x, STATE);

        x = faulty();
        x.enter(1, 2);
        Check.due("13: refused", x.copy(), -1);
        Check.due("15: refused", x.alter(7, 0), false);
        Check.nextDue("13, 15: the fault stays", x, STATE);
        Check.due("13, 15: level", x.level(), 1);
        Check.infoDue("13, 15: info", x, 7, 6, 0);
    }

    /** The writer's calls leave the reader where it is, with what it keeps, and with its fault. */
    private static void writerDoesNotRewind() {
        for (int n = 0; n <= ANSWERS.length; n++) {
            BitBlocks x = keeping();
            for (int i = 0; i < n; i++) {
                Check.next(x);
            }
            int level = x.level();
            int first = x.info(0);
            useWriter(x);
            Check.due("the writer is used: level", x.level(), level);
            Check.due("the writer is used: info(0)", x.info(0), first);
            for (int i = n; i < ANSWERS.length; i++) {
                Check.nextDue("the writer is used", x, ANSWERS[i]);
            }
            Check.nextDue("the writer is used", x, 0);
        }
        BitBlocks x = faulty();
        useWriter(x);
        Check.nextDue("the writer is used: the fault stays", x, STATE);
        Check.due("the writer is used: level", x.level(), 1);
        Check.due("the writer is used: the reader's words", x.wipe(), 7);
    }

    /** The reader's calls leave the writer as it is, with all that is prepared and kept. */
    private static void readerLeavesTheWriter() {
        for (int depth = 0; depth <= 6; depth++) {
            int open = depth;
            Twins.unchanged("13 to 20: the writer at depth " + open, x -> {
                x.enter(0, 2);
                x.value(1);
                x.record(1, 2);
                x.op(FIXED, 1);
                x.form();
                x.leave();
                for (int i = 0; i < open; i++) {
                    x.enter(1, 3);
                }
                x.op(FIXED, 2);
                x.value(3);
            }, 0, CarryEdgesTest::useReader);
        }
        Twins.unchanged("13 to 20: the writer in INFO", x -> {
            x.enter(0, 2);
            x.value(1);
            x.record(1, 2);
            x.op(FIXED, 2);
        }, 0, CarryEdgesTest::useReader);
    }

    /** The reader's stream is empty before and behind it. */
    private static long useReader(BitBlocks x) {
        x.copy();
        for (int i = 0; i < 9; i++) {
            Check.next(x);
        }
        x.wipe();
        for (int word : Check.words(EMPTY)) {
            x.load(word);
        }
        Check.nextDue("the reader is used", x, 1, 2, 0);
        x.alter(0, 0);
        Check.nextDue("the reader is used", x, BAD, STATE);
        x.rewind();
        Check.due("the reader is used", x.wipe(), 3);
        return x.info(0) + 1 + x.level();
    }

    private static void useWriter(BitBlocks x) {
        x.enter(0, 5);
        x.value(1);
        x.record(1, 2);
        x.op(FIXED, 9);
        x.form();
        x.leave();
        x.enter(1, 3);
        x.op(FIXED, 8);
        x.value(3);
        x.drop();
        x.leave();
        x.clear();
    }

    // 17: "nothing is kept"
    private static void rewoundKeepsNothing() {
        int head = Check.words("10 100000 1100")[0];
        int record = Check.words("001 1 000")[0];
        for (int way = 0; way < 4; way++) {
            BitBlocks x = keeping();
            Check.nextDue("17: two forms are kept", x, 1, 4, 3, 3, 2);
            // A block of id 1 with a record by its form 4, which is there no more.
            if (way == 0) {
                x.wipe();
                x.load(head);
                x.load(1);
                x.load(record);
            } else if (way == 1) {
                x.alter(0, head);
                x.alter(1, 1);
                x.alter(2, record);
            } else {
                x.clear();
                x.enter(1, 3);
                x.leave();
                x.copy();
                x.alter(2, record);
            }
            Check.nextDue("17: nothing is kept", x, 1, BAD, STATE);
            if (way == 3) {
                x.rewind();
                Check.nextDue("17: nothing is kept", x, 1, BAD, STATE);
            }
        }
        // Eight forms are kept each time: there is room for them again.
        BitBlocks x = new BitBlocks();
        x.enter(0, 2);
        x.value(63);
        x.record(1, 2);
        for (int i = 0; i < 8; i++) {
            x.op(FIXED, 1);
            x.form();
        }
        x.leave();
        x.copy();
        for (int turn = 0; turn < 10; turn++) {
            Check.nextDue("17: eight kept forms", x, 1, 4, 3, 3, 3, 3, 3, 3, 3, 3);
            Check.due("17: the eighth", x.info(1), 11);
            x.rewind();
        }
    }
}
