import java.util.Arrays;

/**
 * Promise 18, sentence by sentence: what each boundary asks for on it, one step inside it and one
 * step outside it.
 */
public final class NextEdgesTest {
    private static final long BAD = Check.ARGUMENT;
    private static final long STATE = Check.STATE;
    private static final int MAX = Integer.MAX_VALUE;
    // A block of width 3 with the forms FIXED 1 and FIXED 2, of which padding is made.
    private static final String PADDED = "10 100000 1100 / #1 "
            + "110 10000 0 100 10000 110 10000 0 100 01000 ";
    private static final String BLOCK = "10 100000 1100 / #1 ";
    private static final String INFO = "10 000000 1100 / #1 ";
    private static final String TARGET = "010 100000 100000 100000 ";
    private static final String MORE = "/ #0 #0 #0 #0 ";

    public static void main(String[] args) {
        endAtDepthZero();
        endInsideABlock();
        cutLeave();
        cutPlain();
        cutForm();
        cutByForm();
        cutEnter();
        firstNumberAtDepthZero();
        firstNumberInABlock();
        idsAndWidths();
        kindsOfOps();
        widthsOfOps();
        numbersTooLarge();
        numbersTooLargeByForm();
        moreChunksThanNeeded();
        lengthTooLarge();
        zerosOfEnter();
        zerosOfLeave();
        lastBitOfAFullStream();
        countOfOps();
        placeOfTheRow();
        depth();
        countOfForms();
        countOfKeptForms();
        countOfValues();
        countInARow();
        infoEnter();
        infoRecords();
        infoForms();
        infoFormWithoutTarget();
        lengthAtLeave();
        lengthsOfNestedBlocks();
        leaveAtDepthZero();
        faultStays();
        Check.end();
    }

    private static long[] answers(int first, int count, long each, long... last) {
        long[] all = new long[count + 1 + last.length];
        Arrays.fill(all, each);
        all[0] = first;
        System.arraycopy(last, 0, all, count + 1, last.length);
        return all;
    }

    private static String head(int id, int width) {
        return Check.chunks(id, 6) + Check.chunks(width, 4);
    }

    // "0 (and nothing else) at depth 0 at the end of the stream"
    private static void endAtDepthZero() {
        Check.nextDue("18: no words", new BitBlocks(), 0, 0, 0, 0);
        for (int blocks = 1; blocks <= 21; blocks++) {
            BitBlocks x = Check.loaded("10 100000 0100 / #1 00 / ".repeat(blocks));
            for (int i = 0; i < blocks; i++) {
                Check.nextDue("18: block " + i, x, 1, 2);
            }
            Check.nextDue("18: behind block " + blocks, x, 0, 0, 0);
            Check.due("18: level", x.level(), 0);
            x.load(0);
            for (int i = 0; i < blocks; i++) {
                Check.nextDue("18: block " + i, x, 1, 2);
            }
            Check.nextDue("18: a word behind it", x, BAD, STATE);
        }
        for (int n = 3; n <= 64; n++) {
            BitBlocks x = Made.ofWords(n);
            x.copy();
            Check.due("18: the end of " + n, lastAnswer(x), 0);
            Check.nextDue("18: the end of " + n, x, 0);
        }
    }

    /** Reads on while there are items: the first answer that is none. */
    private static long lastAnswer(BitBlocks x) {
        long answer = 1;
        for (int i = 0; i < 400 && answer >= 1 && answer <= 4; i++) {
            answer = Check.next(x);
        }
        return answer;
    }

    // "the stream ends before it is whole": a block that is not left
    private static void endInsideABlock() {
        for (int depth = 1; depth <= 6; depth++) {
            for (int left = 0; left <= depth; left++) {
                StringBuilder bits = new StringBuilder();
                for (int i = 1; i <= depth; i++) {
                    bits.append("10 100000 0100 / #").append(1 + 3 * (depth - i)).append(' ');
                }
                bits.append("00 / ".repeat(left));
                BitBlocks x = Check.loaded(bits.toString());
                for (int i = 0; i < depth; i++) {
                    Check.nextDue("18: in", x, 1);
                }
                for (int i = 0; i < left; i++) {
                    Check.nextDue("18: out", x, 2);
                }
                Check.nextDue("18: the end at depth " + (depth - left), x, left == depth ? 0 : BAD);
                Check.due("18: level", x.level(), depth - left);
                Check.nextDue("18: again", x, left == depth ? 0 : STATE);
            }
        }
    }

    /** Records of 5 and 4 bits by the forms 5 and 4 of PADDED: so many bits, 16 or more. */
    private static String padding(int bits) {
        int odd = bits % 4;
        return "10101".repeat(odd) + "0011".repeat((bits - 5 * odd) / 4);
    }

    private static int paddingItems(int bits) {
        int odd = bits % 4;
        return odd + (bits - 5 * odd) / 4;
    }

    /** How much padding there must be between so many bits and the end of a word. */
    private static int paddingFor(int bits) {
        return 16 + (-(bits + 16) & 31);
    }

    /**
     * A stream that ends behind each of the item's bits: only behind the last one it is whole.
     * The forms are written before it; they have the numbers 6 and 7.
     */
    private static void cut(String what, String forms, int formCount, String item, long answer) {
        String before = Check.bits(PADDED + forms);
        String bits = Check.bits(item);
        for (int inside = 0; inside <= bits.length(); inside++) {
            int pad = paddingFor(before.length() + inside);
            BitBlocks x = Check.loaded(before + padding(pad) + bits.substring(0, inside));
            int words = (before.length() + pad + inside) / 32;
            Check.due("18: the length", x.alter(1, words - 2), true);
            Check.nextDue(what, x, answers(1, 2 + formCount, 3));
            for (int i = 0; i < paddingItems(pad); i++) {
                Check.nextDue(what, x, 4);
            }
            boolean whole = inside == bits.length();
            int first = x.info(0);
            Check.nextDue(what + ": its first " + inside + " bits", x, whole ? answer : BAD);
            Check.due(what + ": level", x.level(), whole && answer == 2 ? 0 : 1);
            if (whole) {
                Check.nextDue(what + ": behind it", x, answer == 2 ? 0 : BAD);
            } else {
                Check.due(what + ": info(0)", x.info(0), first);
                Check.nextDue(what + ": from then on", x, STATE);
            }
        }
    }

    // "the stream ends before it is whole": each item, cut behind each of its bits
    private static void cutLeave() {
        cut("18: LEAVE", "", 0, "000", 2);
    }

    private static void cutPlain() {
        cut("18: a code", "", 0, "010 100000 000000", 4);
        cut("18: a long code", "", 0, "010 " + Check.chunks(MAX, 6) + "000000", 4);
        cut("18: values", "", 0, "010 100000 110000 111110 000001 100000 100000", 4);
        cut("18: 16 values", "", 0, "010 100000 000010 " + "100000".repeat(16), 4);
        cut("18: more chunks", "", 0, "010 100001 000001 000000 000001 000000", 4);
    }

    private static void cutForm() {
        cut("18: FIXED", "", 0, "110 10000 0 100 00100", 3);
        cut("18: FIXED 31", "", 0, "110 10000 0 100 11111 10000", 3);
        cut("18: CHUNKED", "", 0, "110 10000 0 010 11110", 3);
        cut("18: CHUNKED 16", "", 0, "110 10000 0 010 00001 10000", 3);
        cut("18: LITERAL", "", 0, "110 10000 1 11111110", 3);
        cut("18: LITERAL 128", "", 0, "110 10000 1 00000001 10000000", 3);
        cut("18: ROW", "", 0, "110 01000 0 110 0 100 10000", 3);
        cut("18: eight ops", "", 0, "110 00010 " + "1 00000000".repeat(8), 3);
    }

    private static void cutByForm() {
        cut("18: by LITERAL", "110 10000 1 11111110 ", 1, "011", 4);
        for (int w = 1; w <= 31; w++) {
            cut("18: by FIXED " + w, "110 10000 0 100 " + Check.chunks(w, 5), 1,
                    "011" + Check.num(MAX, w), 4);
        }
        for (int w = 2; w <= 31; w++) {
            cut("18: by CHUNKED " + w, "110 10000 0 010 " + Check.chunks(w, 5), 1,
                    "011" + Check.chunks(MAX, w), 4);
        }
        cut("18: by a ROW", "110 01000 0 110 0 100 11000 ", 1, "011 010000 101 011", 4);
        cut("18: by an empty ROW", "110 11000 1 10000000 0 110 0 100 11000 ", 1, "011 000000", 4);
        cut("18: by all", "110 00100 0 100 10100 1 10000000 0 110 0 010 11000 ", 1,
                "011 10101 010000 111 110 010", 4);
    }

    private static void cutEnter() {
        String[] heads = {head(1, 2), head(31, 7), head(32, 8), head(63, 8),
            "100001 000001 000000 1101 0001 0000"};
        for (String head : heads) {
            String before = Check.bits(PADDED);
            String item = Check.bits("100" + head);
            for (int inside = 0; inside <= item.length(); inside++) {
                int pad = paddingFor(before.length() + inside);
                BitBlocks x = Check.loaded(before + padding(pad) + item.substring(0, inside));
                // The whole head is not enough: the length is missing.
                readPadding("18: ENTER", x, pad);
                Check.nextDue("18: ENTER, its first " + inside + " bits", x, BAD, STATE);
                Check.due("18: level", x.level(), 1);
                x.load(0);
                readPadding("18: ENTER", x, pad);
                Check.nextDue("18: ENTER and a word", x, inside == item.length() ? 1 : BAD);
                Check.due("18: level", x.level(), inside == item.length() ? 2 : 1);
            }
            String atDepth0 = Check.bits("10" + head + "/");
            for (int n = 1; n <= atDepth0.length() / 32 + 1; n++) {
                BitBlocks x = Check.loaded(atDepth0.substring(0, Math.min(n * 32,
                        atDepth0.length())));
                Check.nextDue("18: ENTER without its length", x, BAD, STATE);
                Check.due("18: level", x.level(), 0);
            }
            Check.readDue("18: ENTER with its length", atDepth0 + " #0", 1, BAD);
        }
    }

    private static void readPadding(String what, BitBlocks x, int pad) {
        Check.nextDue(what, x, 1, 3, 3);
        for (int i = 0; i < paddingItems(pad); i++) {
            Check.nextDue(what, x, 4);
        }
    }

    // "2 bits at depth 0, where there is only ENTER"
    private static void firstNumberAtDepthZero() {
        for (int number = 0; number <= 3; number++) {
            long due = number == 1 ? 1 : BAD;
            String bits = Check.num(number, 2) + " 100000 0100 / #1 00 / " + MORE;
            Check.readDue("18: " + number + " at depth 0", bits, due);
            Check.readDue("18: " + number + " behind a block", BLOCK + "000 / " + bits, 1, 2, due);
        }
    }

    // "n from 4 on": "a number that is none of those named"
    private static void firstNumberInABlock() {
        for (int width = 3; width <= 8; width++) {
            for (int forms = 0; forms <= 8; forms++) {
                String before = "10 100000 " + Check.chunks(width, 4) + "/ #9 "
                        + (Check.num(3, width) + "10000 1 10000000").repeat(forms);
                for (int n = 4; n < 1 << width; n = n < 20 ? n + 1 : 2 * n + 1) {
                    BitBlocks x = Check.loaded(before + Check.num(n, width) + MORE);
                    Check.nextDue("18: forms", x, answers(1, forms, 3));
                    Check.nextDue("18: number " + n + " of " + forms, x, n < 4 + forms ? 4 : BAD);
                    if (n < 4 + forms) {
                        Check.infoDue("18: number " + n, x, 1, n, 0);
                    }
                }
            }
        }
    }

    // "a number that is none of those named": an id 0 .. 63, a width 2 .. 8
    private static void idsAndWidths() {
        for (int id = 0; id <= 140; id++) {
            Check.readDue("18: id " + id, "10" + head(id, 2) + "/ #1 00 /", id <= 63 ? 1 : BAD);
            Check.readDue("18: an inner id " + id, BLOCK + "100" + head(id, 2) + "/ #1 00 /",
                    1, id <= 63 ? 1 : BAD);
        }
        for (int id : new int[] {256, 256 + 1, 1 << 30, MAX - 63, MAX}) {
            Check.readDue("18: id " + id, "10" + head(id, 2) + "/ #1 00 /", BAD);
        }
        for (int width = 0; width <= 70; width++) {
            long due = width >= 2 && width <= 8 ? 1 : BAD;
            for (int id : new int[] {0, 1, 63}) {
                Check.readDue("18: width " + width, "10" + head(id, width) + MORE, due);
                Check.readDue("18: an inner width " + width, BLOCK + "100" + head(id, width) + MORE,
                        1, due);
            }
        }
        for (int width : new int[] {256 + 2, 1 << 30, MAX - 5, MAX}) {
            Check.readDue("18: width " + width, "10" + head(1, width) + MORE, BAD);
        }
    }

    // "the kind in 3 bits (1 FIXED, 2 CHUNKED, 3 ROW)"
    private static void kindsOfOps() {
        for (int kind = 0; kind <= 7; kind++) {
            String op = "0" + Check.num(kind, 3);
            String before = BLOCK + "110 ";
            Check.readDue("18: kind " + kind, before + "10000" + op + "00100" + MORE, 1,
                    kind == 1 || kind == 2 ? 3 : BAD);
            Check.readDue("18: kind " + kind + " before FIXED 4", before + "01000" + op
                    + (kind == 3 ? "" : "00100") + "0 100 00100" + MORE, 1,
                    kind >= 1 && kind <= 3 ? 3 : BAD);
            Check.readDue("18: kind " + kind + " behind a ROW", before + "01000 0 110" + op
                    + "00100" + MORE, 1, kind == 1 || kind == 2 ? 3 : BAD);
        }
    }

    // "FIXED w (w 1 .. 31); CHUNKED w (w 2 .. 31)"
    private static void widthsOfOps() {
        for (int w = 0; w <= 70; w++) {
            for (int kind = 1; kind <= 2; kind++) {
                String op = "0" + Check.num(kind, 3) + Check.chunks(w, 5);
                long due = w >= kind && w <= 31 ? 3 : BAD;
                Check.readDue("18: w " + w, BLOCK + "110 10000" + op + MORE, 1, due);
                Check.readDue("18: w " + w + " behind a ROW", BLOCK + "110 01000 0 110" + op + MORE,
                        1, due);
                Check.readDue("18: w " + w + " in INFO", INFO + TARGET + "110 10000" + op + MORE,
                        1, 4, due);
            }
        }
        for (int w : new int[] {256 + 2, 1 << 30, MAX - 30, MAX}) {
            Check.readDue("18: w " + w, BLOCK + "110 10000 0 100" + Check.chunks(w, 5) + MORE,
                    1, BAD);
        }
    }

    /** So many chunks of w of which one bit is 1, this one of the number's bits. */
    private static String chunksWithBit(int bit, int w, int count) {
        StringBuilder bits = new StringBuilder();
        for (int i = 0; i < count; i++) {
            for (int k = 0; k < w - 1; k++) {
                bits.append(i * (w - 1) + k == bit ? '1' : '0');
            }
            bits.append(i < count - 1 ? '1' : '0');
        }
        return bits.toString();
    }

    // "or not below 2^31": 2^30 is, 2^31 and each larger power is not
    private static void numbersTooLarge() {
        for (int bit = 0; bit < 1500; bit++) {
            int count = bit / 5 + 1;
            boolean right = bit <= 30;
            BitBlocks x = Check.loaded(BLOCK + "010" + chunksWithBit(bit, 6, count) + "000000");
            Check.nextDue("18: a code of 2^" + bit, x, 1, right ? 4 : BAD);
            if (right) {
                Check.infoDue("18: a code of 2^" + bit, x, 1 << bit, 2, 0);
            }
            x = Check.loaded(BLOCK + "010 000000 100000" + chunksWithBit(bit, 6, count + 2));
            Check.nextDue("18: a value of 2^" + bit, x, 1, right ? 4 : BAD);
            if (right) {
                Check.infoDue("18: a value of 2^" + bit, x, 0, 2, 1, 1 << bit);
            }
            Check.readDue("18: a LITERAL of 2^" + bit, BLOCK + "110 10000 1"
                    + chunksWithBit(bit, 8, bit / 7 + 1), 1, right ? 3 : BAD);
            Check.readDue("18: an id of 2^" + bit, "10" + chunksWithBit(bit, 6, count) + "0100 "
                    + "/ #1 00 /", bit <= 5 ? 1 : BAD);
            Check.readDue("18: values 2^" + bit, BLOCK + "010 000000" + chunksWithBit(bit, 6, count)
                    + "000000".repeat(16), 1, bit <= 4 ? 4 : BAD);
        }
        for (int bit = 0; bit < 1000; bit++) {
            Check.readDue("18: a width of 2^" + bit, "10 100000" + chunksWithBit(bit, 4, bit / 3 + 1)
                    + MORE, bit >= 1 && bit <= 3 ? 1 : BAD);
            Check.readDue("18: ops 2^" + bit, BLOCK + "110" + chunksWithBit(bit, 5, bit / 4 + 1)
                    + "1 00000000".repeat(8), 1, bit <= 3 ? 3 : BAD);
            Check.readDue("18: a w of 2^" + bit, BLOCK + "110 10000 0 100"
                    + chunksWithBit(bit, 5, bit / 4 + 1), 1, bit <= 4 ? 3 : BAD);
        }
    }

    private static void numbersTooLargeByForm() {
        for (int w = 2; w <= 31; w++) {
            String before = BLOCK + "110 10000 0 010" + Check.chunks(w, 5) + "001";
            int most = 1900 / w;
            for (int bit = 0; bit < most * (w - 1); bit++) {
                BitBlocks x = Check.loaded(before + chunksWithBit(bit, w, bit / (w - 1) + 1));
                Check.nextDue("18: 2^" + bit + " in chunks of " + w, x, 1, 3, bit <= 30 ? 4 : BAD);
                Check.due("18: the number", x.info(0), bit <= 30 ? 1 << bit : 1);
            }
            // All bits of the largest number, and one more.
            BitBlocks x = Check.loaded(before + Check.chunks(MAX, w) + MORE);
            Check.nextDue("18: the largest in chunks of " + w, x, 1, 3, 4);
            Check.infoDue("18: the largest in chunks of " + w, x, MAX, 4, 0);
            Check.readDue("18: one more in chunks of " + w, before + Check.chunks(MAX + 1L, w)
                    + MORE, 1, 3, BAD);
        }
    }

    // "A reader of chunks takes any number of them, also more than are needed"
    private static void moreChunksThanNeeded() {
        for (int count = 1; count <= 320; count++) {
            BitBlocks x = Check.loaded(BLOCK + "010" + chunksWithBit(2, 6, count) + "000000");
            Check.nextDue("18: a code in chunks " + count, x, 1, 4);
            Check.infoDue("18: a code in chunks " + count, x, 4, 2, 0);
            Check.readDue("18: an id in chunks " + count, "10" + chunksWithBit(2, 6, count)
                    + "0100 / #0", 1, BAD);
        }
        for (int w = 2; w <= 31; w++) {
            String before = BLOCK + "110 10000 0 010" + Check.chunks(w, 5) + "001";
            for (int count = 1; count <= 1900 / w; count++) {
                BitBlocks x = Check.loaded(before + chunksWithBit(0, w, count));
                Check.nextDue("18: chunks " + count, x, 1, 3, 4);
                Check.infoDue("18: chunks " + count, x, 1, 4, 0);
            }
        }
        // All of a full stream is one number: its last chunk ends with the last bit.
        String before = Check.bits(BLOCK + "110 10000 0 010 01000 001");
        int count = (2048 - before.length()) / 2;
        BitBlocks x = Check.loaded(before + chunksWithBit(1, 2, count));
        Check.due("18: 64 words", x.load(0), -1);
        Check.nextDue("18: chunks " + count, x, 1, 3, 4);
        Check.infoDue("18: chunks " + count, x, 2, 4, 0);
        x = Check.loaded((before + chunksWithBit(1, 2, count + 1)).substring(0, 2048));
        Check.nextDue("18: chunks without an end", x, 1, 3, BAD, STATE);
    }

    // "or not below 2^31": the word behind an ENTER
    private static void lengthTooLarge() {
        for (int bit = 0; bit < 32; bit++) {
            int length = 1 << bit;
            BitBlocks x = Check.loaded("10 100000 0100 / #" + length + " 00 /");
            Check.nextDue("18: a length of 2^" + bit, x, bit < 31 ? 1 : BAD);
            Check.due("18: level", x.level(), bit < 31 ? 1 : 0);
            Check.due("18: info(2)", x.info(2), bit < 31 ? length : -1);
            Check.nextDue("18: LEAVE", x, bit == 0 ? 2 : bit < 31 ? BAD : STATE);
        }
        Check.readDue("18: the largest length", "10 100000 0100 / #" + MAX + " 00 /", 1, BAD);
        Check.readDue("18: all bits", "10 100000 0100 / #-1 00 /", BAD);
    }

    // "zeros that are not zeros": each of those behind an ENTER
    private static void zerosOfEnter() {
        String before = Check.bits(PADDED);
        String head = Check.bits("100" + head(1, 2));
        for (int zeros = 0; zeros < 32; zeros++) {
            int pad = paddingFor(before.length() + head.length() + zeros);
            String up = before + padding(pad) + head;
            String rest = Check.bits("#1 00 / 000 /");
            for (int wrong = 0; wrong <= zeros; wrong++) {
                // The last turn leaves them as they are.
                StringBuilder fill = new StringBuilder("0".repeat(zeros));
                if (wrong < zeros) {
                    fill.setCharAt(wrong, '1');
                }
                BitBlocks x = Check.loaded(up + fill + rest);
                readPadding("18: zeros", x, pad);
                Check.nextDue("18: zeros of ENTER, the wrong one at " + wrong + " of " + zeros, x,
                        wrong < zeros ? BAD : 1);
                Check.due("18: level", x.level(), wrong < zeros ? 1 : 2);
                Check.nextDue("18: behind it", x, wrong < zeros ? STATE : 2);
            }
        }
        for (int wrong = 12; wrong < 32; wrong++) {
            StringBuilder bits = new StringBuilder(Check.bits("10 100000 0100 / #1 00 /"));
            bits.setCharAt(wrong, '1');
            Check.readDue("18: zeros at depth 0, bit " + wrong, bits.toString(), BAD);
        }
    }

    // "zeros that are not zeros": each of those behind a LEAVE
    private static void zerosOfLeave() {
        String before = Check.bits(PADDED);
        for (int zeros = 0; zeros < 32; zeros++) {
            int pad = paddingFor(before.length() + 3 + zeros);
            String up = before + padding(pad) + "000";
            for (int wrong = 0; wrong <= zeros; wrong++) {
                StringBuilder fill = new StringBuilder("0".repeat(zeros));
                if (wrong < zeros) {
                    fill.setCharAt(wrong, '1');
                }
                BitBlocks x = Check.loaded(up + fill);
                x.alter(1, (up.length() + zeros) / 32 - 2);
                readPadding("18: zeros", x, pad);
                Check.nextDue("18: zeros of LEAVE, the wrong one at " + wrong + " of " + zeros, x,
                        wrong < zeros ? BAD : 2);
                Check.due("18: level", x.level(), wrong < zeros ? 1 : 0);
                Check.nextDue("18: behind it", x, wrong < zeros ? STATE : 0);
            }
        }
    }

    /** 64 words whose last bit belongs to a LEAVE, or to a record, or is a zero. */
    private static void lastBitOfAFullStream() {
        for (int width = 3; width <= 8; width++) {
            for (int spare = 0; spare <= 2; spare++) {
                BitBlocks x = Made.withSpare(1, width, spare);
                x.leave();
                Check.due("18: copy", x.copy(), 64);
                Check.due("18: all is read", lastAnswer(x), 0);
                Check.due("18: level", x.level(), 0);
                if (spare > 0) {
                    x.alter(63, x.word(63) | Integer.MIN_VALUE);
                    Check.due("18: the last bit is no zero", lastAnswer(x), BAD);
                    Check.due("18: level", x.level(), 1);
                } else {
                    x.alter(1, 61);
                    Check.due("18: a length too short", lastAnswer(x), BAD);
                }
            }
        }
    }

    // "A FORM is a row of 1 to 8 OPS"; "more than is allowed (... ops ...)"
    private static void countOfOps() {
        for (int count = 0; count <= 40; count++) {
            String ops = Check.chunks(count, 5) + "1 10000000".repeat(count);
            long due = count >= 1 && count <= 8 ? 3 : BAD;
            Check.readDue("18: ops " + count, BLOCK + "110" + ops + MORE, 1, due);
            Check.readDue("18: ops " + count + " in INFO", INFO + TARGET + "110" + ops + MORE,
                    1, 4, due);
        }
        for (int count : new int[] {256 + 1, 1 << 30, MAX - 7, MAX}) {
            Check.readDue("18: ops " + count, BLOCK + "110" + Check.chunks(count, 5)
                    + "1 10000000".repeat(8) + MORE, 1, BAD);
        }
    }

    // "a form that is none": "If there is a ROW, it is the last but one, and behind it stands a
    // FIXED or CHUNKED one; no other op is ROW."
    private static void placeOfTheRow() {
        String[] others = {"1 01000000", "0 100 01000", "0 010 01000"};
        for (int kind = 0; kind < others.length; kind++) {
            for (int count = 1; count <= 8; count++) {
                for (int one = 0; one < count; one++) {
                    for (int two = one; two < count; two++) {
                        StringBuilder ops = new StringBuilder(Check.chunks(count, 5));
                        for (int i = 0; i < count; i++) {
                            ops.append(i == one || i == two ? "0 110" : others[kind]);
                        }
                        boolean right = one == two && one == count - 2 && kind > 0;
                        Check.readDue("18: ROW at " + one + " and " + two + " of " + count,
                                BLOCK + "110" + ops + MORE, 1, right ? 3 : BAD);
                    }
                }
            }
        }
    }

    // "more than is allowed (depth ...)"
    private static void depth() {
        for (int last = 0; last <= 1; last++) {
            StringBuilder bits = new StringBuilder();
            for (int i = 1; i <= 5; i++) {
                bits.append("10 100000 0100 / #").append(4 + 3 * (5 - i) + 3).append(' ');
            }
            String sixth = "10" + head(last, 2) + "/ #1 00 / ";
            // The sixth is there two times, one behind the other.
            BitBlocks x = Check.loaded(bits + sixth + sixth + "00 / ".repeat(5));
            Check.nextDue("18: five blocks", x, 1, 1, 1, 1, 1);
            Check.nextDue("18: a sixth, two times", x, 1, 2, 1);
            Check.due("18: level", x.level(), 6);
            Check.nextDue("18: all are left", x, 2, 2, 2, 2, 2, 2, 0);

            x = Check.loaded(bits + "10" + head(1, 2) + "/ #1 10" + head(last, 2) + MORE);
            Check.nextDue("18: six blocks", x, 1, 1, 1, 1, 1, 1);
            Check.nextDue("18: a seventh", x, BAD, STATE);
            Check.due("18: level", x.level(), 6);
        }
    }

    // "more than is allowed (... forms ...)"
    private static void countOfForms() {
        String form = "110 10000 1 00000000 ";
        for (int count = 7; count <= 9; count++) {
            BitBlocks x = Check.loaded(BLOCK + form.repeat(count) + MORE);
            Check.nextDue("18: a block", x, 1);
            for (int i = 1; i <= count; i++) {
                Check.nextDue("18: form " + i, x, i <= 8 ? 3 : BAD);
                Check.infoDue("18: form " + i, x, 1, Math.min(11, 3 + i));
            }
        }
        // Each block has its own.
        Check.readDue("18: eight, and one in another block", BLOCK + form.repeat(8)
                + "100 100000 1100 / #1 " + form + MORE,
                1, 3, 3, 3, 3, 3, 3, 3, 3, 1, 3);
    }

    private static void countOfKeptForms() {
        String form = "110 10000 1 00000000 ";
        String other = "010 100000 100000 010000 ";
        for (int kept = 0; kept <= 9; kept++) {
            int words = (3 + 18 + 17 * kept + 3 + 31) / 32;
            String info = "10 000000 1100 / #" + words + " " + TARGET + form.repeat(kept);
            BitBlocks x = Check.loaded(info + "000 / " + BLOCK + form.repeat(9) + MORE);
            Check.nextDue("18: a target", x, 1, 4);
            for (int i = 1; i <= kept; i++) {
                Check.nextDue("18: kept form " + i, x, i <= 8 ? 3 : BAD);
            }
            if (kept > 8) {
                continue;
            }
            Check.nextDue("18: a block with " + kept, x, 2, 1);
            for (int i = kept + 1; i <= 8; i++) {
                Check.nextDue("18: its form " + i, x, 3);
                Check.infoDue("18: its form " + i, x, 1, 3 + i);
            }
            Check.nextDue("18: a ninth", x, BAD, STATE);
        }
        Check.readDue("18: kept for two targets", INFO + TARGET + form.repeat(8) + other
                + form.repeat(8) + MORE, 1, 4, 3, 3, 3, 3, 3, 3, 3, 3, 4, 3, 3, 3, 3, 3, 3, 3, 3,
                BAD);
        Check.readDue("18: a ninth in another INFO", "10 000000 1100 / #5 " + TARGET
                + form.repeat(8) + "000 / " + INFO + TARGET + form + MORE,
                1, 4, 3, 3, 3, 3, 3, 3, 3, 3, 2, 1, 4, BAD);
    }

    // "more than is allowed (... values)": of a PLAIN record
    private static void countOfValues() {
        for (int count = 0; count <= 40; count++) {
            BitBlocks x = Check.loaded(BLOCK + "010 100000" + Check.chunks(count, 6)
                    + "010000".repeat(count) + MORE);
            Check.nextDue("18: values " + count, x, 1, count <= 16 ? 4 : BAD);
            Check.due("18: values " + count, x.info(2), count <= 16 ? count : 1);
        }
        for (int count : new int[] {256, 256 + 1, 1 << 30, MAX - 16, MAX}) {
            Check.readDue("18: values " + count, BLOCK + "010 100000" + Check.chunks(count, 6)
                    + "000000".repeat(40), 1, BAD);
        }
    }

    // "ROW how many there are in chunks of 6 (at least one if the ROW stands first)"; "values"
    private static void countInARow() {
        for (int before = 0; before <= 6; before++) {
            for (int kind = 0; kind <= 1; kind++) {
                String single = kind == 0 ? "1 01000000" : "0 100 01000";
                String form = BLOCK + "110" + Check.chunks(before + 2, 5) + single.repeat(before)
                        + "0 110 0 100 11000 001" + (kind == 0 ? "" : "01".repeat(before));
                for (int count = 0; count <= 40; count++) {
                    boolean right = count + before >= 1 && count + before <= 17;
                    BitBlocks x = Check.loaded(form + Check.chunks(count, 6) + "101".repeat(count)
                            + MORE);
                    Check.nextDue("18: in a ROW " + count + " behind " + before, x,
                            1, 3, right ? 4 : BAD);
                    if (right) {
                        int[] due = new int[count + before + 2];
                        Arrays.fill(due, 3, Math.max(3, before + 2), 2);
                        Arrays.fill(due, Math.max(3, before + 2), Math.max(3, due.length), 5);
                        due[0] = before == 0 ? 5 : 2;
                        due[1] = 4;
                        due[2] = count + before - 1;
                        Check.infoDue("18: in a ROW " + count + " behind " + before, x, due);
                    }
                }
                for (int count : new int[] {256 + 1, 1 << 30, MAX - 17, MAX - 6, MAX}) {
                    Check.readDue("18: in a ROW " + count, form + Check.chunks(count, 6)
                            + "101".repeat(99), 1, 3, BAD);
                }
            }
        }
    }

    /** The same bits in an INFO block at depth 1 and, inside other blocks, down to depth 6. */
    private static void infoDue(String what, String bits, long... want) {
        for (int depth = 1; depth <= 6; depth++) {
            BitBlocks x = Check.loaded("10 100000 0100 / #50 ".repeat(depth - 1) + INFO + bits
                    + MORE);
            Check.nextDue(what, x, answers(1, depth - 1, 1));
            Check.nextDue(what + " in INFO at depth " + depth, x, want);
            Check.due(what + ": level", x.level(), depth);
            if (want[want.length - 1] == BAD) {
                Check.nextDue(what + ": from then on", x, STATE);
            }
        }
    }

    // "what may not stand in INFO (ENTER ...)"
    private static void infoEnter() {
        for (int id : new int[] {0, 1, 63}) {
            infoDue("18: ENTER", "100" + head(id, 2) + "/ #1 00 /", BAD);
            infoDue("18: ENTER behind a target", TARGET + "100" + head(id, 2) + "/ #1 00 /", 4, BAD);
        }
        Check.readDue("18: ENTER behind INFO", INFO + "000 / 10" + head(1, 2) + "/ #1 00 /",
                1, 2, 1, 2, 0);
    }

    // "a record that is not as said there": "only with the code 1 and one value, 1 .. 63"
    private static void infoRecords() {
        for (int code = 0; code <= 3; code++) {
            infoDue("18: code " + code, "010" + Check.chunks(code, 6) + "100000 100000",
                    code == 1 ? 4 : BAD);
        }
        for (int count = 0; count <= 17; count++) {
            infoDue("18: values " + count, "010 100000" + Check.chunks(count, 6)
                    + "100000".repeat(count), count == 1 ? 4 : BAD);
        }
        for (int value = 0; value <= 130; value++) {
            infoDue("18: value " + value, "010 100000 100000" + Check.chunks(value, 6),
                    value >= 1 && value <= 63 ? 4 : BAD);
        }
        for (int value : new int[] {256 + 1, 1 << 30, MAX - 62, MAX}) {
            infoDue("18: value " + value, "010 100000 100000" + Check.chunks(value, 6), BAD);
        }
        infoDue("18: a second target", TARGET + "010 100000 100000 111111 100000", 4, 4);
        infoDue("18: a second one that is none", TARGET + "010 100000 100000 000000", 4, BAD);
    }

    // "n from 4 on (not in INFO)"
    private static void infoForms() {
        String form = "110 10000 1 10000000 ";
        for (int n = 4; n <= 7; n++) {
            infoDue("18: number " + n, Check.num(n, 3), BAD);
            infoDue("18: number " + n + " with a target", TARGET + Check.num(n, 3), 4, BAD);
            infoDue("18: number " + n + " with a kept form", TARGET + form + Check.num(n, 3),
                    4, 3, BAD);
            // A block with forms stood at the same depth before it.
            Check.readDue("18: number " + n + " behind a block", "10 100000 1100 / #3 "
                    + form.repeat(4) + "000 / " + INFO + Check.num(n, 3) + MORE,
                    1, 3, 3, 3, 3, 2, 1, BAD);
        }
    }

    // "a FORM without a target"
    private static void infoFormWithoutTarget() {
        String form = "110 10000 1 10000000 ";
        infoDue("18: no target", form, BAD);
        infoDue("18: a target", TARGET + form, 4, 3);
        Check.readDue("18: no target again", "10 000000 1100 / #2 " + TARGET + form + "000 / " + INFO
                + form + MORE, 1, 4, 3, 2, 1, BAD);
        Check.readDue("18: a target again", "10 000000 1100 / #2 " + TARGET + form + "000 / " + INFO
                + TARGET + form + MORE, 1, 4, 3, 2, 1, 4, 3);
        Check.readDue("18: in a block behind INFO", INFO + TARGET + "000 / " + BLOCK + form + MORE,
                1, 4, 2, 1, 3);
    }

    // "a block whose length is not what its ENTER says (seen at LEAVE)"
    private static void lengthAtLeave() {
        for (int n = 3; n <= 64; n++) {
            int length = n - 2;
            for (int told : new int[] {0, length - 1, length, length + 1, length + 256, MAX}) {
                BitBlocks x = Made.ofWords(n);
                x.copy();
                x.alter(1, told);
                Check.nextDue("18: ENTER", x, 1);
                Check.infoDue("18: what ENTER says", x, 1, 2, told);
                long answer = 4;
                for (int i = 0; i < 90 && answer == 4; i++) {
                    answer = Check.next(x);
                }
                Check.due("18: length " + length + ", told " + told, answer,
                        told == length ? 2 : BAD);
                Check.due("18: level", x.level(), told == length ? 0 : 1);
                Check.nextDue("18: behind it", x, told == length ? 0 : STATE);
            }
        }
    }

    private static void lengthsOfNestedBlocks() {
        for (int wrong = 1; wrong <= 6; wrong++) {
            for (int step = -1; step <= 1; step++) {
                BitBlocks x = new BitBlocks();
                for (int depth = 1; depth <= 6; depth++) {
                    x.enter(depth, 2);
                }
                for (int depth = 1; depth <= 6; depth++) {
                    x.leave();
                }
                x.copy();
                x.alter(2 * wrong - 1, x.word(2 * wrong - 1) + step);
                Check.nextDue("18: in", x, 1, 1, 1, 1, 1, 1);
                for (int depth = 6; depth >= 1; depth--) {
                    boolean right = step == 0 || depth > wrong;
                    Check.nextDue("18: out of " + depth + ", a wrong length at " + wrong, x,
                            right ? 2 : depth == wrong ? BAD : STATE);
                }
                Check.due("18: level", x.level(), step == 0 ? 0 : wrong);
            }
        }
    }

    // "a LEAVE at depth 0"
    private static void leaveAtDepthZero() {
        Check.readDue("18: a word of zeros", "#0", BAD);
        for (int blocks = 0; blocks <= 21; blocks++) {
            BitBlocks x = Check.loaded("10 100000 0100 / #1 00 / ".repeat(blocks) + "#0");
            for (int i = 0; i < blocks; i++) {
                Check.nextDue("18: block " + i, x, 1, 2);
            }
            Check.nextDue("18: LEAVE at depth 0", x, BAD, STATE);
            Check.due("18: level", x.level(), 0);
        }
    }

    // "and from then on till the next rewinding it throws IllegalStateException each time"
    private static void faultStays() {
        BitBlocks x = Check.loaded(BLOCK + "010 110000 100000 010000 001" + MORE);
        for (int turn = 0; turn < 5; turn++) {
            Check.nextDue("18: a fault", x, 1, 4, BAD);
            for (int i = 0; i < 50; i++) {
                Check.nextDue("18: it stays", x, STATE);
            }
            Check.due("18: level", x.level(), 1);
            Check.due("18: info(3)", x.info(3), 2);
            x.rewind();
        }
    }
}
