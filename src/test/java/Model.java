import java.util.ArrayList;
import java.util.HashMap;
import java.util.List;
import java.util.Map;

/**
 * The document again, in its slowest and plainest form: bits are characters, sizes are found by
 * writing. Random runs compare BitBlocks with it.
 */
final class Model {
    private static final class Open {
        final int id;
        final int width;
        final int begin;
        final long length;
        final List<List<int[]>> forms = new ArrayList<>();
        int target = 0;

        Open(int id, int width, int begin, long length) {
            this.id = id;
            this.width = width;
            this.begin = begin;
            this.length = length;
        }
    }

    private static final class Bad extends Exception {
        private static final long serialVersionUID = 1L;
    }

    private String written = "";
    private final List<Open> out = new ArrayList<>();
    private final Map<Integer, List<List<int[]>>> outKept = new HashMap<>();
    private List<int[]> ops = new ArrayList<>();
    private List<Integer> values = new ArrayList<>();

    private final List<Integer> stream = new ArrayList<>();
    private final List<Open> in = new ArrayList<>();
    private final Map<Integer, List<List<int[]>>> inKept = new HashMap<>();
    private int place = 0;
    private boolean fault = false;
    private int[] shown = {};

    private static String filled(String bits) {
        return bits.length() % 32 == 0 ? bits : bits + "0".repeat(32 - bits.length() % 32);
    }

    private boolean isTooLong(String bits, int innermost) {
        String all = innermost == 0 ? bits : filled(bits + "0".repeat(innermost));
        for (int i = out.size() - 1; i >= 0; i--) {
            all = filled(all + "0".repeat(out.get(i).width));
        }
        return all.length() > 64 * 32;
    }

    private static Open last(List<Open> blocks) {
        return blocks.get(blocks.size() - 1);
    }

    private static List<List<int[]>> keptFor(Map<Integer, List<List<int[]>>> kept, int id) {
        return kept.computeIfAbsent(id, k -> new ArrayList<>());
    }

    int enter(int id, int width) {
        if (id < 0 || id > 63 || width < 2 || width > 8) {
            return -1;
        }
        if (out.size() == 6) {
            return -2;
        }
        if (!out.isEmpty() && last(out).id == 0) {
            return -3;
        }
        int now = out.isEmpty() ? 2 : last(out).width;
        String bits = filled(written + Check.num(1, now) + Check.chunks(id, 6)
                + Check.chunks(width, 4)) + Check.num(0, 32);
        if (isTooLong(bits, width)) {
            return -4;
        }
        written = bits;
        Open block = new Open(id, width, bits.length(), 0);
        block.forms.addAll(keptFor(outKept, id));
        out.add(block);
        return 0;
    }

    int leave() {
        if (out.isEmpty()) {
            return -1;
        }
        Open block = out.remove(out.size() - 1);
        written = filled(written + Check.num(0, block.width));
        int length = (written.length() - block.begin) / 32;
        written = written.substring(0, block.begin - 32) + Check.num(length, 32)
                + written.substring(block.begin);
        return length;
    }

    int op(int kind, int v) {
        boolean right = kind == 0 && v >= 0 || kind == 1 && v >= 1 && v <= 31
                || kind == 2 && v >= 2 && v <= 31 || kind == 3;
        if (!right) {
            return -1;
        }
        if (ops.size() == 8) {
            return -2;
        }
        ops.add(new int[] {kind, v});
        return ops.size();
    }

    int value(int v) {
        if (v < 0) {
            return -1;
        }
        if (values.size() == 16) {
            return -2;
        }
        values.add(v);
        return values.size();
    }

    void drop() {
        ops = new ArrayList<>();
        values = new ArrayList<>();
    }

    private static boolean isForm(List<int[]> row) {
        StringBuilder kinds = new StringBuilder();
        for (int[] op : row) {
            kinds.append(op[0]);
        }
        return row.size() <= 8 && kinds.toString().matches("[012]+|[012]*3[12]");
    }

    int form() {
        if (out.isEmpty()) {
            return -1;
        }
        if (!isForm(ops)) {
            return -2;
        }
        Open block = last(out);
        if (block.id == 0 && block.target == 0) {
            return -3;
        }
        List<List<int[]>> row = block.id == 0 ? keptFor(outKept, block.target) : block.forms;
        if (row.size() == 8) {
            return -4;
        }
        StringBuilder bits = new StringBuilder(written);
        bits.append(Check.num(3, block.width)).append(Check.chunks(ops.size(), 5));
        for (int[] op : ops) {
            if (op[0] == 0) {
                bits.append('1').append(Check.chunks(op[1], 8));
            } else {
                bits.append('0').append(Check.num(op[0], 3));
                bits.append(op[0] == 3 ? "" : Check.chunks(op[1], 5));
            }
        }
        if (isTooLong(bits.toString(), 0)) {
            return -5;
        }
        written = bits.toString();
        row.add(ops);
        ops = new ArrayList<>();
        return 3 + row.size();
    }

    /** The bits of a record without the form's number; null if it does not fit. */
    private static String bitsBy(List<int[]> form, List<Integer> numbers) {
        StringBuilder bits = new StringBuilder();
        int used = 0;
        for (int i = 0; i < form.size(); i++) {
            int turns = 1;
            if (form.get(i)[0] == 3) {
                turns = numbers.size() - used;
                bits.append(Check.chunks(Math.max(turns, 0), 6));
                i++;
            }
            for (int turn = 0; turn < turns; turn++) {
                if (used >= numbers.size()) {
                    return null;
                }
                int number = numbers.get(used++);
                int v = form.get(i)[1];
                switch (form.get(i)[0]) {
                    case 0:
                        if (number != v) {
                            return null;
                        }
                        break;
                    case 1:
                        if (number >= 1L << v) {
                            return null;
                        }
                        bits.append(Check.num(number, v));
                        break;
                    default:
                        bits.append(Check.chunks(number, v));
                }
            }
            if (turns < 0) {
                return null;
            }
        }
        return used == numbers.size() ? bits.toString() : null;
    }

    int record(int code, int form) {
        if (out.isEmpty() || code < 0) {
            return -1;
        }
        Open block = last(out);
        if (form != 2 && (form < 4 || form >= 4L + block.forms.size() || form >= 1 << block.width
                || block.id == 0)) {
            return -2;
        }
        List<Integer> numbers = new ArrayList<>(values);
        numbers.add(0, code);
        String bits;
        if (form == 2) {
            boolean isTarget = code == 1 && values.size() == 1 && values.get(0) >= 1
                    && values.get(0) <= 63;
            if (block.id == 0 && !isTarget) {
                return -3;
            }
            bits = Check.chunks(code, 6) + Check.chunks(values.size(), 6);
            for (int value : values) {
                bits += Check.chunks(value, 6);
            }
        } else {
            bits = bitsBy(block.forms.get(form - 4), numbers);
            if (bits == null) {
                return -3;
            }
        }
        bits = Check.num(form, block.width) + bits;
        if (isTooLong(written + bits, 0)) {
            return -5;
        }
        written += bits;
        if (block.id == 0) {
            block.target = values.get(0);
        }
        values = new ArrayList<>();
        return bits.length();
    }

    int words() {
        return filled(written).length() / 32;
    }

    int word(int i) {
        return i < 0 || i >= words() ? 0 : Check.words(written)[i];
    }

    int depth() {
        return out.size();
    }

    void clear() {
        written = "";
        out.clear();
        outKept.clear();
        drop();
    }

    int copy() {
        if (!out.isEmpty()) {
            return -1;
        }
        stream.clear();
        for (int word : Check.words(written)) {
            stream.add(word);
        }
        rewind();
        return stream.size();
    }

    int load(int word) {
        if (stream.size() == 64) {
            return -1;
        }
        stream.add(word);
        rewind();
        return stream.size();
    }

    boolean alter(int i, int word) {
        if (i < 0 || i >= stream.size()) {
            return false;
        }
        stream.set(i, word);
        rewind();
        return true;
    }

    int wipe() {
        int had = stream.size();
        stream.clear();
        rewind();
        return had;
    }

    void rewind() {
        in.clear();
        inKept.clear();
        place = 0;
        fault = false;
        shown = new int[0];
    }

    int info(int i) {
        return i < 0 || i >= shown.length ? -1 : shown[i];
    }

    int level() {
        return in.size();
    }

    /** Word i of the reader's stream, which a test alters a little. */
    int streamWord(int i) {
        return i < 0 || i >= stream.size() ? 0 : stream.get(i);
    }

    int streamSize() {
        return stream.size();
    }

    long next() {
        if (fault) {
            return Check.STATE;
        }
        if (in.isEmpty() && place == 32 * stream.size()) {
            shown = new int[0];
            return 0;
        }
        try {
            return read();
        } catch (Bad e) {
            fault = true;
            return Check.ARGUMENT;
        }
    }

    private static void ask(boolean right) throws Bad {
        if (!right) {
            throw new Bad();
        }
    }

    private int bit() throws Bad {
        ask(place < 32 * stream.size());
        int bit = stream.get(place / 32) >>> (place % 32) & 1;
        place++;
        return bit;
    }

    private long number(int n) throws Bad {
        long number = 0;
        for (int i = 0; i < n; i++) {
            number += (long) bit() << i;
        }
        return number;
    }

    private int chunked(int w) throws Bad {
        java.math.BigInteger number = java.math.BigInteger.ZERO;
        int at = 0;
        boolean more = true;
        while (more) {
            number = number.add(java.math.BigInteger.valueOf(number(w - 1)).shiftLeft(at));
            at += w - 1;
            more = bit() == 1;
        }
        ask(number.bitLength() <= 31);
        return number.intValue();
    }

    private void zeros() throws Bad {
        while (place % 32 != 0) {
            ask(bit() == 0);
        }
    }

    private int read() throws Bad {
        if (in.isEmpty()) {
            ask(number(2) == 1);
            return readEnter();
        }
        Open block = last(in);
        int what = (int) number(block.width);
        switch (what) {
            case 0:
                zeros();
                ask(block.length == (place - block.begin) / 32);
                in.remove(in.size() - 1);
                shown = new int[] {block.id};
                return 2;
            case 1:
                return readEnter();
            case 3:
                return readForm(block);
            default:
                return readRecord(block, what);
        }
    }

    private int readEnter() throws Bad {
        ask(in.size() < 6 && (in.isEmpty() || last(in).id != 0));
        int id = chunked(6);
        int width = chunked(4);
        ask(id <= 63 && width >= 2 && width <= 8);
        zeros();
        long length = number(32);
        ask(length <= Integer.MAX_VALUE);
        Open block = new Open(id, width, place, length);
        block.forms.addAll(keptFor(inKept, id));
        in.add(block);
        shown = new int[] {id, width, (int) length};
        return 1;
    }

    private int readForm(Open block) throws Bad {
        ask(block.id != 0 || block.target != 0);
        List<List<int[]>> row = block.id == 0 ? keptFor(inKept, block.target) : block.forms;
        ask(row.size() < 8);
        int count = chunked(5);
        ask(count <= 8);
        List<int[]> form = new ArrayList<>();
        for (int i = 0; i < count; i++) {
            if (bit() == 1) {
                form.add(new int[] {0, chunked(8)});
                continue;
            }
            int kind = (int) number(3);
            ask(kind >= 1 && kind <= 3);
            int w = kind == 3 ? 0 : chunked(5);
            ask(kind == 3 || w >= kind && w <= 31);
            form.add(new int[] {kind, w});
        }
        ask(isForm(form));
        row.add(form);
        shown = new int[] {count, 3 + row.size()};
        return 3;
    }

    private int readRecord(Open block, int what) throws Bad {
        List<Integer> numbers = new ArrayList<>();
        if (what == 2) {
            numbers.add(chunked(6));
            int count = chunked(6);
            ask(count <= 16);
            for (int i = 0; i < count; i++) {
                numbers.add(chunked(6));
            }
            if (block.id == 0) {
                ask(numbers.get(0) == 1 && count == 1 && numbers.get(1) >= 1
                        && numbers.get(1) <= 63);
                block.target = numbers.get(1);
            }
        } else {
            ask(block.id != 0 && what < 4 + block.forms.size());
            readBy(block.forms.get(what - 4), numbers);
        }
        ask(numbers.size() >= 1 && numbers.size() <= 17);
        shown = new int[numbers.size() + 2];
        shown[0] = numbers.get(0);
        shown[1] = what;
        shown[2] = numbers.size() - 1;
        for (int k = 1; k < numbers.size(); k++) {
            shown[2 + k] = numbers.get(k);
        }
        return 4;
    }

    private void readBy(List<int[]> form, List<Integer> numbers) throws Bad {
        for (int i = 0; i < form.size(); i++) {
            int turns = 1;
            if (form.get(i)[0] == 3) {
                turns = chunked(6);
                ask(turns + numbers.size() <= 17);
                i++;
            }
            for (int turn = 0; turn < turns; turn++) {
                int v = form.get(i)[1];
                switch (form.get(i)[0]) {
                    case 0:
                        numbers.add(v);
                        break;
                    case 1:
                        numbers.add((int) number(v));
                        break;
                    default:
                        numbers.add(chunked(v));
                }
            }
        }
    }
}
