/**
 * Promises 1 to 3 and 9 to 12, sentence by sentence: what each boundary asks for on it, one step
 * inside it and one step outside it.
 */
public final class BlockEdgesTest {
    private static final int LITERAL = 0;
    private static final int FIXED = 1;
    private static final int ROW = 3;
    private static final int MAX = Integer.MAX_VALUE;
    private static final int MIN = Integer.MIN_VALUE;

    public static void main(String[] args) {
        newStreamsAreEmpty();
        newHasNothingPrepared();
        newHasNothingKept();
        newIsAtDepthZero();
        newIsApartFromOthers();
        enterIds();
        enterWidths();
        enterDepth();
        enterInInfo();
        enterRoomInWords();
        enterRoomOfTheHead();
        enterAlignment();
        enterOrder();
        leaveAtDepthZero();
        leaveAlignment();
        leaveLongest();
        leaveLength();
        wordsOfBits();
        wordsFull();
        wordIndex();
        wordOpenLength();
        wordUnwrittenBits();
        depthEdges();
        clearIsNew();
        clearOfAFullStream();
        Check.end();
    }

    // 1: "Both streams empty ..."
    private static void newStreamsAreEmpty() {
        BitBlocks x = new BitBlocks();
        Check.due("1: words()", x.words(), 0);
        for (int i = -1; i <= 64; i++) {
            Check.due("1: word(" + i + ")", x.word(i), 0);
        }
        Check.due("1: the reader has no word 0", x.alter(0, 1), false);
        Check.nextDue("1: the reader's end", x, 0, 0);
        Check.due("1: words of the reader", x.wipe(), 0);
        Check.due("1: the first word", new BitBlocks().load(7), 1);
        Check.due("1: an empty copy", new BitBlocks().copy(), 0);
    }

    // 1: "... nothing kept or prepared ..."
    private static void newHasNothingPrepared() {
        Check.due("1: the first op", new BitBlocks().op(FIXED, 1), 1);
        Check.due("1: the first value", new BitBlocks().value(1), 1);
        BitBlocks x = new BitBlocks();
        x.enter(1, 2);
        Check.due("1: no ops", x.form(), -2);
        Check.due("1: no values", x.record(0, 2), 2 + 6 + 6);
    }

    // 1: "... nothing kept or prepared ...", "For each id 1 .. 63 there is a row of KEPT forms, ...
    // none at first."
    private static void newHasNothingKept() {
        for (int id = 1; id <= 63; id++) {
            BitBlocks x = new BitBlocks();
            x.enter(id, 4);
            for (int form = 4; form <= 12; form++) {
                Check.due("1: form " + form + " of " + id, x.record(0, form), -2);
            }
            x.op(FIXED, 1);
            Check.due("1: the first form of " + id, x.form(), 4);

            x = new BitBlocks();
            x.enter(0, 2);
            x.value(id);
            x.record(1, 2);
            x.op(FIXED, 1);
            Check.due("1: the first kept form for " + id, x.form(), 4);

            for (int form = 4; form <= 15; form++) {
                x = Check.loaded("10" + Check.chunks(id, 6) + "0010 / #1 " + Check.num(form, 4)
                        + "/");
                Check.nextDue("1: the reader keeps form " + form + " for " + id, x, 1,
                        Check.ARGUMENT);
            }
        }
    }

    // 1: "... both at depth 0."
    private static void newIsAtDepthZero() {
        BitBlocks x = new BitBlocks();
        Check.due("1: depth()", x.depth(), 0);
        Check.due("1: level()", x.level(), 0);
        Check.due("1: leave()", x.leave(), -1);
        Check.due("1: form()", x.form(), -1);
        Check.due("1: record()", x.record(0, 2), -1);
        Check.infoDue("1", x);
    }

    private static void newIsApartFromOthers() {
        BitBlocks used = new BitBlocks();
        used.enter(0, 3);
        used.value(1);
        used.record(1, 2);
        used.op(FIXED, 1);
        used.form();
        used.op(FIXED, 1);
        used.value(9);
        used.load(1045);
        Twins.alike("1: a new object beside a used one", new BitBlocks(), new BitBlocks());
        Check.due("1: the used one", used.depth(), 1);
        Check.due("1: the used one", used.op(FIXED, 1), 2);
    }

    // 2: "-1 id is not 0 .. 63 ..."
    private static void enterIds() {
        for (int width = 2; width <= 8; width++) {
            for (int id : new int[] {MIN, MIN + 1, -64, -2, -1, 64, 65, 127, MAX}) {
                BitBlocks x = new BitBlocks();
                Check.due("2: id " + id, x.enter(id, width), -1);
                Check.due("2: no block", x.depth(), 0);
                Check.due("2: no words", x.words(), 0);
            }
            for (int id = 0; id <= 63; id++) {
                BitBlocks x = new BitBlocks();
                Check.due("2: id " + id, x.enter(id, width), 0);
                Check.due("2: a block", x.depth(), 1);
                // Up to 31 the id is one chunk, up to 7 the width.
                Check.streamDue("2: id " + id, x, "10" + Check.chunks(id, 6)
                        + Check.chunks(width, 4) + "/ #0");
                Check.due("2: it is empty", x.leave(), 1);
                x.copy();
                Check.nextDue("2: it is read", x, 1);
                Check.infoDue("2: it is read", x, id, width, 1);
                Check.nextDue("2: it is read", x, 2, 0);
            }
        }
    }

    // 2: "-1 ... or width not 2 .. 8"
    private static void enterWidths() {
        for (int id : new int[] {0, 1, 31, 32, 63}) {
            for (int width = -1; width <= 11; width++) {
                BitBlocks x = new BitBlocks();
                boolean right = width >= 2 && width <= 8;
                Check.due("2: width " + width, x.enter(id, width), right ? 0 : -1);
                Check.due("2: depth", x.depth(), right ? 1 : 0);
                Check.due("2: words", x.words(), right ? 2 : 0);
            }
            for (int width : new int[] {MIN, MIN + 2, -2, 12, 16, 34, 256 + 2, MAX}) {
                Check.due("2: width " + width, new BitBlocks().enter(id, width), -1);
            }
        }
    }

    // 2: "-2 depth 6"; "BLOCKS lie inside blocks, at most 6 deep"
    private static void enterDepth() {
        BitBlocks x = new BitBlocks();
        for (int depth = 0; depth < 6; depth++) {
            Check.due("2: depth " + depth, x.enter(1 + depth, 2 + depth), 0);
        }
        Check.due("2: depth 6", x.enter(1, 2), -2);
        Check.due("2: INFO at depth 6", x.enter(0, 2), -2);
        x.leave();
        Check.due("2: depth 5 again", x.enter(0, 8), 0);
        Check.due("2: depth 6 again", x.enter(1, 2), -2);
    }

    // 2: "-3 it lies in INFO"
    private static void enterInInfo() {
        for (int depth = 1; depth <= 5; depth++) {
            BitBlocks x = new BitBlocks();
            for (int i = 1; i < depth; i++) {
                x.enter(1, 2);
            }
            Check.due("2: INFO at depth " + depth, x.enter(0, 2), 0);
            Check.due("2: in it", x.enter(1, 2), -3);
            Check.due("2: INFO in it", x.enter(0, 2), -3);
            x.value(1);
            x.record(1, 2);
            Check.due("2: in it, with a target", x.enter(1, 2), -3);
            x.leave();
            Check.due("2: behind it", x.enter(1, 2), 0);
            Check.due("2: in that", x.depth(), depth);
            Check.due("2: in a block of another id", x.enter(63, 2), 0);
        }
    }

    // 2: "-4 the stream would be longer than 64 words, when each open block and this one are left"
    private static void enterRoomInWords() {
        for (int outer = 0; outer <= 5; outer++) {
            for (int width = 2; width <= 8; width += 3) {
                for (int id = 0; id <= 1; id++) {
                    // Each block takes two words before its content, and one for its LEAVE.
                    int most = 64 - 3 * outer - 3;
                    Check.due("2: a word less", roomFor(most - 1, outer, id, width, 63), 0);
                    Check.due("2: just so", roomFor(most, outer, id, width, 64), 0);
                    Check.due("2: a word more", roomFor(most + 1, outer, id, width, 62), -4);
                }
            }
        }
    }

    /** What enter() answers behind so many words, in so many blocks; and the words in the end. */
    private static int roomFor(int words, int outer, int id, int width, int inTheEnd) {
        BitBlocks x = Made.ofWords(words);
        for (int i = 0; i < outer; i++) {
            Check.due("2: an outer block", x.enter(1, 2 + i), 0);
        }
        int answer = x.enter(id, width);
        int depth = outer + (answer == 0 ? 1 : 0);
        Check.due("2: depth", x.depth(), depth);
        Check.due("2: words", x.words(), words + 2 * depth);
        for (int i = 0; i < depth; i++) {
            Check.due("2: each is left", x.leave(), 1 + 3 * i);
        }
        Check.due("2: words in the end", x.words(), inTheEnd);
        return answer;
    }

    // 2: "-4 ...", where the ENTER begins within a word: it may end in this word or the next one.
    private static void enterRoomOfTheHead() {
        int[][] heads = {{1, 2, 10}, {0, 7, 10}, {31, 7, 10}, {31, 8, 14}, {32, 2, 16}, {63, 8, 20}};
        for (int depth = 1; depth <= 5; depth++) {
            for (int width = 3; width <= 8; width++) {
                for (int[] head : heads) {
                    // The id and the width, and a word each for the length and the two LEAVEs.
                    int need = head[2] + 96;
                    for (int spare = need - 1; spare <= need + 1; spare++) {
                        BitBlocks x = Made.withSpare(depth, width, spare);
                        int words = x.words();
                        Check.due("2: spare bits " + spare + ", depth " + depth,
                                x.enter(head[0], head[1]), spare < need ? -4 : 0);
                        Check.due("2: words", x.words(), spare < need ? words : 63 - depth);
                        Check.due("2: nothing else", x.word(x.words()), 0);
                    }
                }
            }
        }
    }

    // "ALIGNED: zeros up to the beginning of the next word, none if one begins here."
    private static void enterAlignment() {
        for (int width = 3; width <= 8; width++) {
            for (int bit = 0; bit < 32; bit++) {
                BitBlocks x = Made.withEndAt(2, width, bit);
                int end = Made.endAfter(2, bit);
                int head = end + width + 6 + 4;
                Check.due("2: enter", x.enter(3, 5), 0);
                Check.due("2: words behind bit " + bit, x.words(), (head + 31) / 32 + 1);
                Check.due("2: the length", x.word((head + 31) / 32), 0);
                Check.due("2: the head", bitsFrom(x, end, (head + 31) / 32 * 32), Check.bits(
                        Check.num(1, width) + "110000 1010" + "0".repeat(-head & 31)));
                Check.due("2: its length", x.leave(), 1);
                Check.due("2: its length is here", x.word((head + 31) / 32), 1);
            }
        }
    }

    /** The bits of the writer's stream, as text. */
    private static String bitsFrom(BitBlocks x, int from, int to) {
        StringBuilder bits = new StringBuilder();
        for (int i = from; i < to; i++) {
            bits.append(x.word(i / 32) >>> (i % 32) & 1);
        }
        return bits.toString();
    }

    // 2: "Refused, first that holds"
    private static void enterOrder() {
        BitBlocks deep = new BitBlocks();
        for (int i = 0; i < 5; i++) {
            deep.enter(1, 2);
        }
        deep.enter(0, 2);
        Check.due("2: -1 before -2", deep.enter(64, 2), -1);
        Check.due("2: -1 before -2", deep.enter(1, 9), -1);
        Check.due("2: -2 before -3", deep.enter(1, 2), -2);

        BitBlocks info = Made.ofWords(61);
        info.enter(0, 2);
        Check.due("2: -1 before -3", info.enter(-1, 2), -1);
        Check.due("2: -1 before -3", info.enter(0, 1), -1);
        Check.due("2: -3 before -4", info.enter(1, 2), -3);

        BitBlocks full = Made.ofWords(64);
        Check.due("2: -4", full.enter(1, 2), -4);
        Check.due("2: -1 before -4", full.enter(64, 2), -1);
        Check.due("2: -1 before -4", full.enter(1, 1), -1);

        BitBlocks fullAndDeep = Made.withSpare(6, 3, 0);
        Check.due("2: -2 before -4", fullAndDeep.enter(1, 2), -2);
        Check.due("2: -1 before all", fullAndDeep.enter(-1, 2), -1);
    }

    // 3: "-1 at depth 0"
    private static void leaveAtDepthZero() {
        BitBlocks x = new BitBlocks();
        Check.due("3: new", x.leave(), -1);
        x.enter(1, 2);
        Check.due("3: depth 1", x.leave(), 1);
        Check.due("3: depth 0", x.leave(), -1);
        Check.due("3: words", x.words(), 3);
        x.enter(0, 2);
        Check.due("3: INFO", x.leave(), 1);
        Check.due("3: depth 0", x.leave(), -1);
        x.enter(1, 2);
        x.clear();
        Check.due("3: cleared", x.leave(), -1);
        Check.due("3: no words", x.words(), 0);
        BitBlocks full = Made.ofWords(64);
        Check.due("3: a full stream", full.leave(), -1);
        Check.due("3: its words", full.words(), 64);
    }

    // "0 LEAVE: aligned.": up to the end of the word, a bit less, and a bit more.
    private static void leaveAlignment() {
        for (int depth = 1; depth <= 6; depth += 5) {
            for (int width = 2; width <= 8; width++) {
                for (int bit = 0; bit < 32; bit += width > 2 ? 1 : 2) {
                    BitBlocks x = Made.withEndAt(depth, width, bit);
                    int words = (Made.endAfter(depth, bit) + width + 31) / 32;
                    Check.due("3: bit " + bit + " and " + width, x.leave(), words - 2 * depth);
                    Check.due("3: words", x.words(), words);
                    Check.due("3: zeros", bitsFrom(x, Made.endAfter(depth, bit), 32 * words),
                            "0".repeat(32 * words - Made.endAfter(depth, bit)));
                    Check.due("3: the length in its ENTER", x.word(2 * depth - 1),
                            words - 2 * depth);
                }
            }
        }
    }

    // 3: "that length", up to the longest that there can be.
    private static void leaveLongest() {
        for (int width = 3; width <= 8; width++) {
            for (int spare = 0; spare <= 33; spare++) {
                BitBlocks x = Made.withSpare(1, width, spare);
                Check.due("3: spare bits " + spare, x.leave(), spare < 32 ? 62 : 61);
                Check.due("3: words", x.words(), spare < 32 ? 64 : 63);
            }
            BitBlocks x = Made.withSpare(6, width, 0);
            for (int i = 0; i < 6; i++) {
                Check.due("3: full, depth " + (6 - i), x.leave(), 64 - 5 - 12 + 3 * i);
            }
            Check.due("3: words", x.words(), 64);
        }
    }

    // 3: "the length of the block into its ENTER"
    private static void leaveLength() {
        BitBlocks x = new BitBlocks();
        for (int i = 0; i < 6; i++) {
            x.enter(1, 2);
        }
        for (int i = 5; i >= 0; i--) {
            int length = 1 + 3 * (5 - i);
            Check.due("3: the answer", x.leave(), length);
            for (int k = 0; k < 6; k++) {
                Check.due("3: the length at " + k, x.word(2 * k + 1),
                        k < i ? 0 : 1 + 3 * (5 - k));
            }
        }
    }

    // 9: "How many words the writer's stream has, one that is begun included."
    private static void wordsOfBits() {
        for (int width = 3; width <= 8; width++) {
            for (int bit = 0; bit <= 64; bit++) {
                int end = Made.endAfter(1, bit);
                Check.due("9: " + end + " bits", Made.withEndAt(1, width, bit).words(),
                        end / 32 + (end % 32 == 0 ? 0 : 1));
            }
        }
    }

    private static void wordsFull() {
        Check.due("9: none", new BitBlocks().words(), 0);
        for (int n = 3; n <= 64; n++) {
            Check.due("9: " + n, Made.ofWords(n).words(), n);
        }
        for (int width = 3; width <= 8; width++) {
            // The block may have bits in the last word, or only its LEAVE.
            Check.due("9: the last word", Made.withSpare(1, width, 31 - width).words(), 64);
            Check.due("9: the last but one", Made.withSpare(1, width, 32 - width).words(), 63);
        }
    }

    // 10: "0 if there is none"
    private static void wordIndex() {
        int[] sizes = {3, 4, 63, 64};
        for (int n : sizes) {
            BitBlocks x = Made.ofWords(n);
            Check.due("10: the first", x.word(0), Check.words("10 100000 0100")[0]);
            Check.due("10: the second", x.word(1), n - 2);
            Check.due("10: none", x.word(n), 0);
            for (int i : new int[] {MIN, MIN + 1, -64, -2, -1, n + 1, 64, 65, 128, MAX}) {
                Check.due("10: none at " + i, x.word(i), 0);
            }
        }
        // A last word that is not 0.
        BitBlocks x = Made.withSpare(1, 3, 0);
        Check.due("10: word 63", x.word(63) != 0, true);
        Check.due("10: word 64", x.word(64), 0);
        Check.due("10: word -1", x.word(-1), 0);
    }

    // 10: "as is the length of a block that is open"
    private static void wordOpenLength() {
        BitBlocks x = new BitBlocks();
        for (int depth = 1; depth <= 6; depth++) {
            x.enter(depth, 2);
            x.record(1, 2);
            for (int k = 1; k <= depth; k++) {
                Check.due("10: open at depth " + k, x.word(2 * k - 1), 0);
            }
        }
        Check.due("10: left", x.leave(), 1);
        Check.due("10: left", x.word(11), 1);
        Check.due("10: still open", x.word(9), 0);
    }

    // 10: "bits not yet written are 0"
    private static void wordUnwrittenBits() {
        for (int bit = 1; bit < 32; bit++) {
            BitBlocks x = Made.withEndAt(1, 3, bit);
            int end = Made.endAfter(1, bit);
            int last = x.word(end / 32);
            Check.due("10: behind bit " + bit, last >>> bit, 0);
            Check.due("10: the next word", x.word(end / 32 + 1), 0);
            x.op(LITERAL, MAX);
            x.value(MAX);
            Check.due("10: what is prepared is not written", x.word(end / 32), last);
        }
    }

    // 11: "The writer's depth."
    private static void depthEdges() {
        BitBlocks x = new BitBlocks();
        for (int depth = 0; depth <= 6; depth++) {
            Check.due("11: depth", x.depth(), depth);
            Check.due("11: refused", x.enter(64, 2), -1);
            Check.due("11: the same", x.depth(), depth);
            x.enter(depth == 5 ? 0 : 1, 2);
        }
        Check.due("11: the seventh was refused", x.depth(), 6);
        for (int depth = 6; depth >= 0; depth--) {
            Check.due("11: depth", x.depth(), depth);
            x.leave();
        }
        Check.due("11: the last was refused", x.depth(), 0);
    }

    // 12: "The writer's stream becomes empty, at depth 0; nothing is kept or prepared."
    private static void clearIsNew() {
        for (int depth = 0; depth <= 6; depth++) {
            BitBlocks x = new BitBlocks();
            keepForms(x, 8);
            for (int i = 0; i < depth; i++) {
                x.enter(1, 4);
            }
            for (int i = 0; i < 8; i++) {
                x.op(ROW, 0);
            }
            for (int i = 0; i < 16; i++) {
                x.value(MAX);
            }
            x.clear();
            Check.due("12: words", x.words(), 0);
            Check.due("12: depth", x.depth(), 0);
            Twins.alike("12: cleared at depth " + depth, x, new BitBlocks());
        }
        BitBlocks x = new BitBlocks();
        x.clear();
        x.clear();
        Twins.alike("12: nothing to clear", x, new BitBlocks());

        BitBlocks info = new BitBlocks();
        keepForms(info, 1);
        info.enter(0, 2);
        info.value(1);
        info.record(1, 2);
        info.clear();
        info.enter(0, 2);
        info.op(FIXED, 1);
        Check.due("12: no target", info.form(), -3);
        info.value(1);
        info.record(1, 2);
        Check.due("12: none is kept", info.form(), 4);
    }

    private static void keepForms(BitBlocks x, int count) {
        x.enter(0, 2);
        x.value(1);
        x.record(1, 2);
        for (int i = 0; i < count; i++) {
            x.op(FIXED, 1);
            x.form();
        }
        x.leave();
    }

    private static void clearOfAFullStream() {
        BitBlocks full = Made.ofWords(64);
        full.clear();
        for (int i = 0; i < 64; i++) {
            Check.due("12: word " + i, full.word(i), 0);
        }
        Twins.alike("12: a full stream", full, new BitBlocks());
        BitBlocks open = Made.withSpare(6, 8, 0);
        open.clear();
        Twins.alike("12: a full stream with open blocks", open, new BitBlocks());
    }
}
