/** Compares answers with those that are due, prints the wrong ones, and ends a test. */
final class Check {
    /** How the tests write that a call threw. */
    static final long ARGUMENT = 1_000_000_000_001L;
    static final long STATE = 1_000_000_000_002L;

    private static int calls = 0;
    private static int wrong = 0;

    private Check() {
    }

    static void due(String what, long got, long want) {
        calls++;
        if (got != want) {
            wrong++;
            System.out.println(what + " answered " + got + ", due is " + want);
        }
    }

    static void due(String what, boolean got, boolean want) {
        due(what, got ? 1 : 0, want ? 1 : 0);
    }

    static void due(String what, String got, String want) {
        calls++;
        if (!got.equals(want)) {
            wrong++;
            System.out.println(what + " answered " + got + ", due is " + want);
        }
    }

    static boolean isAllRight() {
        return wrong == 0;
    }

    /** What next() answers, or ARGUMENT or STATE if it throws. */
    static long next(BitBlocks x) {
        try {
            return x.next();
        } catch (IllegalArgumentException e) {
            return ARGUMENT;
        } catch (IllegalStateException e) {
            return STATE;
        }
    }

    static void nextDue(String what, BitBlocks x, long... want) {
        for (int i = 0; i < want.length; i++) {
            due(what + ": next() number " + (i + 1), next(x), want[i]);
        }
    }

    /** Looks at info(0), info(1) and so on; what lies outside of them must be -1. */
    static void infoDue(String what, BitBlocks x, int... want) {
        for (int i = 0; i < want.length; i++) {
            due(what + ": info(" + i + ")", x.info(i), want[i]);
        }
        for (int i = want.length; i < 24; i++) {
            due(what + ": info(" + i + ")", x.info(i), -1);
        }
        due(what + ": info(-1)", x.info(-1), -1);
        due(what + ": info(the smallest)", x.info(Integer.MIN_VALUE), -1);
        due(what + ": info(the largest)", x.info(Integer.MAX_VALUE), -1);
    }

    /** Looks at all words of the writer's stream; bits are written as for words(String). */
    static void streamDue(String what, BitBlocks x, String bits) {
        int[] want = words(bits);
        due(what + ": words()", x.words(), want.length);
        for (int i = 0; i < want.length; i++) {
            due(what + ": word(" + i + ")", x.word(i), want[i]);
        }
        due(what + ": the word behind the last", x.word(want.length), 0);
    }

    /** Words from bits as bits(String) takes them, with zeros up to the last word's end. */
    static int[] words(String text) {
        StringBuilder bits = new StringBuilder(bits(text));
        fill(bits);
        int[] words = new int[bits.length() / 32];
        for (int k = 0; k < bits.length(); k++) {
            words[k / 32] |= (bits.charAt(k) - '0') << (k % 32);
        }
        return words;
    }

    /**
     * Bits in the order of the stream, written out. Blanks are not looked at; a '/' stands for zeros
     * up to the next word; '#n' (to a blank or the end) for a whole word with the number n.
     */
    static String bits(String text) {
        StringBuilder bits = new StringBuilder();
        int i = 0;
        while (i < text.length()) {
            char c = text.charAt(i);
            i++;
            if (c == '0' || c == '1') {
                bits.append(c);
            } else if (c == '/') {
                fill(bits);
            } else if (c == '#') {
                int to = text.indexOf(' ', i) < 0 ? text.length() : text.indexOf(' ', i);
                append(bits, Integer.parseInt(text.substring(i, to)), 32);
                i = to;
            } else if (c != ' ') {
                throw new IllegalArgumentException("no bit: " + c);
            }
        }
        return bits.toString();
    }

    private static void fill(StringBuilder bits) {
        while (bits.length() % 32 != 0) {
            bits.append('0');
        }
    }

    static void append(StringBuilder bits, long number, int count) {
        for (int k = 0; k < count; k++) {
            bits.append((number >>> k & 1) == 1 ? '1' : '0');
        }
    }

    /** A number in n bits, as text for words(String). */
    static String num(long number, int count) {
        StringBuilder bits = new StringBuilder();
        append(bits, number, count);
        return bits.toString();
    }

    /** A number in chunks of w, as text for words(String). */
    static String chunks(long number, int w) {
        long left = number >>> (w - 1);
        String first = num(number & ((1L << (w - 1)) - 1), w - 1);
        return left == 0 ? first + "0" : first + "1" + chunks(left, w);
    }

    /** A new object whose reader has these bits. */
    static BitBlocks loaded(String bits) {
        BitBlocks x = new BitBlocks();
        int[] words = words(bits);
        for (int i = 0; i < words.length; i++) {
            due("load", x.load(words[i]), i + 1);
        }
        return x;
    }

    /** Reads these bits; where the last answer is a fault, it must stay, and leave the level. */
    static void readDue(String what, String bits, long... want) {
        BitBlocks x = loaded(bits);
        nextDue(what, x, want);
        if (want[want.length - 1] == ARGUMENT) {
            nextDue(what + ", from then on", x, STATE, STATE);
            due(what + ", the level", x.level(), levelAfter(want));
        }
    }

    private static int levelAfter(long[] answers) {
        int level = 0;
        for (long answer : answers) {
            level += answer == 1 ? 1 : answer == 2 ? -1 : 0;
        }
        return level;
    }

    static void end() {
        System.out.println(wrong + " of " + calls + " answers are not as due");
        if (wrong != 0) {
            System.exit(1);
        }
    }
}
