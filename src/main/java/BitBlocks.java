/**
 * A stream of bits with blocks, records, and forms by which records are written: a writer, a
 * reader, and words to be carried between them.
 */
public final class BitBlocks {

    private static final int STREAM_WORDS = 64;
    private static final int WORD_BITS = 32;
    private static final int STREAM_BITS = STREAM_WORDS * WORD_BITS;
    private static final int MAX_NUMBER = 2147483647;

    private static final int MAX_DEPTH = 6;
    private static final int IDS = 64;
    private static final int NO_BLOCK = -1;
    private static final int INFO = 0;
    private static final int NO_TARGET = 0;
    private static final int MIN_WIDTH = 2;
    private static final int MAX_WIDTH = 8;
    private static final int GROUND_WIDTH = 2;

    // Rows of forms: 0 .. 63 by id, and behind them one for each depth.
    private static final int ROWS = IDS + MAX_DEPTH + 1;
    private static final int NO_ROW = -1;
    private static final int MAX_FORMS = 8;
    private static final int FIRST_FORM = 4;
    private static final int MAX_OPS = 8;
    private static final int MAX_NUMBERS = 17;

    // The numbers that begin what stands in a block.
    private static final int LEAVE = 0;
    private static final int ENTER = 1;
    private static final int PLAIN = 2;
    private static final int FORM = 3;

    // The kinds of ops.
    private static final int NO_OP = -1;
    private static final int LITERAL = 0;
    private static final int FIXED = 1;
    private static final int CHUNKED = 2;
    private static final int ROW = 3;
    private static final int MAX_OP_WIDTH = 31;

    private static final int ID_CHUNK = 6;
    private static final int WIDTH_CHUNK = 4;
    private static final int RECORD_CHUNK = 6;
    private static final int OPS_CHUNK = 5;
    private static final int OP_WIDTH_CHUNK = 5;
    private static final int LITERAL_CHUNK = 8;
    private static final int KIND_BITS = 3;

    // What next() answers.
    private static final int READ_END = 0;
    private static final int READ_ENTER = 1;
    private static final int READ_LEAVE = 2;
    private static final int READ_FORM = 3;
    private static final int READ_RECORD = 4;

    private final Writer writer;
    private final Reader reader;

    public BitBlocks() {
        writer = new Writer();
        reader = new Reader();
    }

    public int enter(int id, int width) {
        return writer.openBlock(id, width);
    }

    public int leave() {
        return writer.closeBlock();
    }

    public int op(int kind, int v) {
        return writer.prepareOp(kind, v);
    }

    public int value(int v) {
        return writer.prepareValue(v);
    }

    public void drop() {
        writer.forgetPrepared();
    }

    public int form() {
        return writer.writeForm();
    }

    public int record(int code, int form) {
        return writer.writeRecord(code, form);
    }

    public int words() {
        return writer.bits.wordCount();
    }

    public int word(int i) {
        return writer.bits.wordAt(i);
    }

    public int depth() {
        return writer.nest.depth;
    }

    public void clear() {
        writer.startAnew();
    }

    public int copy() {
        if (writer.nest.depth != 0) {
            return -1;
        }
        return reader.takeOver(writer.bits);
    }

    public int load(int word) {
        return reader.appendWord(word);
    }

    public boolean alter(int i, int word) {
        return reader.replaceWord(i, word);
    }

    public int wipe() {
        return reader.removeAll();
    }

    public void rewind() {
        reader.goBack();
    }

    public int next() throws IllegalArgumentException, IllegalStateException {
        return reader.readOn();
    }

    public int info(int i) {
        return reader.shownAt(i);
    }

    public int level() {
        return reader.nest.depth;
    }

    private static boolean isBlockHead(int id, int width) {
        return id >= 0 && id < IDS && width >= MIN_WIDTH && width <= MAX_WIDTH;
    }

    private static boolean isOp(int kind, int v) {
        switch (kind) {
            case LITERAL:
                return v >= 0;
            case FIXED:
                return v >= 1 && v <= MAX_OP_WIDTH;
            case CHUNKED:
                return v >= 2 && v <= MAX_OP_WIDTH;
            case ROW:
                return true;
            default:
                return false;
        }
    }

    /** Whether a record, its code first, is the one that gives an INFO block its target. */
    private static boolean namesTarget(int[] numbers, int total) {
        return total == 2 && numbers.length >= 2
                && numbers[0] == 1 && numbers[1] > INFO && numbers[1] < IDS;
    }

    /** A row of ops: one that is being prepared, or a form, which is changed no more. */
    private static final class Form {
        private final int[] kinds = new int[MAX_OPS];
        private final int[] numbers = new int[MAX_OPS];
        private int count = 0;

        boolean isFull() {
            return count >= MAX_OPS;
        }

        void addOp(int kind, int number) {
            if (isFull()) {
                return;
            }
            kinds[count] = kind;
            numbers[count] = number;
            count++;
        }

        int kindAt(int i) {
            return i >= 0 && i < count ? kinds[i] : NO_OP;
        }

        int numberAt(int i) {
            return i >= 0 && i < count ? numbers[i] : 0;
        }

        boolean isForm() {
            for (int i = 0; i < count; i++) {
                if (kindAt(i) == ROW && !mayBeRow(i)) {
                    return false;
                }
            }
            return count > 0;
        }

        private boolean mayBeRow(int i) {
            int behind = kindAt(i + 1);
            return i == count - 2 && (behind == FIXED || behind == CHUNKED);
        }

        boolean hasRow() {
            return kindAt(count - 2) == ROW;
        }

        /** How many ops stand for one number each. */
        int singles() {
            return hasRow() ? count - 2 : count;
        }

        boolean isFitFor(int[] record, int total) {
            int singles = singles();
            if (total > record.length || total < singles || (total > singles && !hasRow())) {
                return false;
            }
            for (int i = 0; i < total; i++) {
                if (!matches(i < singles ? i : count - 1, record[i])) {
                    return false;
                }
            }
            return true;
        }

        private boolean matches(int i, int number) {
            switch (kindAt(i)) {
                case LITERAL:
                    return number == numberAt(i);
                case FIXED:
                    return number >>> numberAt(i) == 0;
                default:
                    return true;
            }
        }
    }

    /** Rows of forms, each numbered from 4 on: one that is kept for each id, one for each depth. */
    private static final class FormRows {
        private final Form[] forms = new Form[ROWS * MAX_FORMS];
        private final int[] counts = new int[ROWS];

        void removeForms() {
            for (int i = 0; i < counts.length; i++) {
                counts[i] = 0;
            }
        }

        boolean hasRoom(int row) {
            return isRow(row) && counts[row] < MAX_FORMS;
        }

        /** The number that the form gets; 0 if there is no room for it. */
        int addForm(int row, Form form) {
            if (!hasRoom(row)) {
                return 0;
            }
            int number = FIRST_FORM + counts[row];
            forms[row * MAX_FORMS + counts[row]] = form;
            counts[row]++;
            return number;
        }

        /** The form with this number, or null. */
        Form find(int row, int number) {
            if (!isRow(row) || number < FIRST_FORM || number - FIRST_FORM >= counts[row]) {
                return null;
            }
            return forms[row * MAX_FORMS + number - FIRST_FORM];
        }

        void copyRow(int from, int to) {
            if (!isRow(from) || !isRow(to)) {
                return;
            }
            for (int i = 0; i < counts[from]; i++) {
                forms[to * MAX_FORMS + i] = forms[from * MAX_FORMS + i];
            }
            counts[to] = counts[from];
        }

        private static boolean isRow(int row) {
            return row >= 0 && row < ROWS;
        }
    }

    private static final class Block {
        private int id = NO_BLOCK;
        private int width = GROUND_WIDTH;
        private int target = NO_TARGET;
        // The word behind the one that tells the length.
        private int start = 0;
        // What the reader found as the length; the writer knows it only at the end.
        private int length = 0;
    }

    /** The open blocks and the kept forms, by the rules that writer and reader share. */
    private static final class Nest {
        // At index 0 stands the ground, which is no block but has a width.
        private final Block[] blocks = new Block[MAX_DEPTH + 1];
        // No form is ever kept for INFO, so that INFO blocks begin, and stay, without forms.
        private final FormRows rows = new FormRows();
        private int depth = 0;

        Nest() {
            for (int i = 0; i < blocks.length; i++) {
                blocks[i] = new Block();
            }
        }

        void startAnew() {
            depth = 0;
            rows.removeForms();
        }

        Block inner() {
            return blocks[depth];
        }

        boolean isInInfo() {
            return inner().id == INFO;
        }

        boolean isDeepest() {
            return depth >= MAX_DEPTH;
        }

        void push(int id, int width, int start, int length) {
            if (isDeepest() || !isBlockHead(id, width)) {
                return;
            }
            depth++;
            Block block = inner();
            block.id = id;
            block.width = width;
            block.target = NO_TARGET;
            block.start = start;
            block.length = length;
            rows.copyRow(id, ownRow());
        }

        void pop() {
            if (depth > 0) {
                depth--;
            }
        }

        private int ownRow() {
            return IDS + depth;
        }

        Form find(int number) {
            return rows.find(ownRow(), number);
        }

        /** The row that a FORM standing here extends; NO_ROW in INFO without a target. */
        int rowToExtend() {
            if (!isInInfo()) {
                return ownRow();
            }
            int target = inner().target;
            return target == NO_TARGET ? NO_ROW : target;
        }
    }

    /** The writer's stream. Bits behind its last word are counted, but not held. */
    private static final class Bits {
        private final int[] row = new int[STREAM_WORDS];
        private int end = 0;

        int wordCount() {
            return (end + WORD_BITS - 1) / WORD_BITS;
        }

        int wordAt(int i) {
            return i >= 0 && i < row.length ? row[i] : 0;
        }

        void setWord(int i, int word) {
            if (i >= 0 && i < row.length) {
                row[i] = word;
            }
        }

        /** Writes a number below 2^count in count bits, 1 to 32. */
        void put(int number, int count) {
            int index = end / WORD_BITS;
            int shift = end % WORD_BITS;
            setWord(index, wordAt(index) | number << shift);
            if (shift + count > WORD_BITS) {
                setWord(index + 1, number >>> (WORD_BITS - shift));
            }
            end += count;
        }

        void putChunks(int number, int width) {
            int low = width - 1;
            int rest = number;
            // Each chunk takes at least one of the number's 31 bits.
            for (int turn = 0; turn < 31; turn++) {
                int part = rest & ((1 << low) - 1);
                rest >>>= low;
                put(rest == 0 ? part : part | 1 << low, width);
                if (rest == 0) {
                    return;
                }
            }
        }

        void align() {
            end = wordCount() * WORD_BITS;
        }

        /** Takes back all bits from this one on. */
        void cutTo(int mark) {
            int first = mark / WORD_BITS;
            int below = (1 << (mark % WORD_BITS)) - 1;
            for (int i = first; i < row.length; i++) {
                row[i] = i == first ? row[i] & below : 0;
            }
            end = mark;
        }
    }

    private static final class Writer {
        private final Bits bits = new Bits();
        private final Nest nest = new Nest();
        private Form draft = new Form();
        // The record that is being prepared: first the place of its code, then its values.
        private final int[] numbers = new int[MAX_NUMBERS];
        private int total = 1;

        void startAnew() {
            bits.cutTo(0);
            nest.startAnew();
            forgetPrepared();
        }

        void forgetPrepared() {
            draft.count = 0;
            total = 1;
        }

        int prepareOp(int kind, int v) {
            if (!isOp(kind, v)) {
                return -1;
            }
            if (draft.isFull()) {
                return -2;
            }
            draft.addOp(kind, v);
            return draft.count;
        }

        int prepareValue(int v) {
            if (v < 0) {
                return -1;
            }
            if (total >= MAX_NUMBERS) {
                return -2;
            }
            numbers[total] = v;
            total++;
            return total - 1;
        }

        int openBlock(int id, int width) {
            if (!isBlockHead(id, width)) {
                return -1;
            }
            if (nest.isDeepest()) {
                return -2;
            }
            if (nest.isInInfo()) {
                return -3;
            }
            int mark = bits.end;
            bits.put(ENTER, nest.inner().width);
            bits.putChunks(id, ID_CHUNK);
            bits.putChunks(width, WIDTH_CHUNK);
            bits.align();
            bits.put(0, WORD_BITS);
            if (!hasRoomToLeave(width, nest.depth)) {
                bits.cutTo(mark);
                return -4;
            }
            nest.push(id, width, bits.wordCount(), 0);
            return 0;
        }

        int closeBlock() {
            if (nest.depth == 0) {
                return -1;
            }
            Block block = nest.inner();
            bits.put(LEAVE, block.width);
            bits.align();
            int length = bits.wordCount() - block.start;
            bits.setWord(block.start - 1, length);
            nest.pop();
            return length;
        }

        int writeForm() {
            if (nest.depth == 0) {
                return -1;
            }
            if (!draft.isForm()) {
                return -2;
            }
            int row = nest.rowToExtend();
            if (row == NO_ROW) {
                return -3;
            }
            if (!nest.rows.hasRoom(row)) {
                return -4;
            }
            int mark = bits.end;
            putForm(draft);
            if (!hasRoomToLeave(nest.inner().width, nest.depth - 1)) {
                bits.cutTo(mark);
                return -5;
            }
            int number = nest.rows.addForm(row, draft);
            // The row holds the draft from now on.
            draft = new Form();
            return number;
        }

        int writeRecord(int code, int number) {
            if (nest.depth == 0 || code < 0) {
                return -1;
            }
            Block block = nest.inner();
            Form form = nest.find(number);
            if (number != PLAIN && (form == null || number >= 1 << block.width)) {
                return -2;
            }
            numbers[0] = code;
            if (!mayBeWrittenBy(form)) {
                return -3;
            }
            int mark = bits.end;
            bits.put(number, block.width);
            if (form == null) {
                putPlain();
            } else {
                putByForm(form);
            }
            if (!hasRoomToLeave(block.width, nest.depth - 1)) {
                bits.cutTo(mark);
                return -5;
            }
            if (nest.isInInfo()) {
                block.target = numbers[1];
            }
            total = 1;
            return bits.end - mark;
        }

        /** Without a form the record is to be PLAIN. */
        private boolean mayBeWrittenBy(Form form) {
            if (form == null) {
                return !nest.isInInfo() || namesTarget(numbers, total);
            }
            return form.isFitFor(numbers, total);
        }

        /**
         * Whether the stream is short enough when a block of this width is left here and then so
         * many outer ones, each of which begins a word of its own by its LEAVE.
         */
        private boolean hasRoomToLeave(int width, int outer) {
            return (bits.end + width + WORD_BITS - 1) / WORD_BITS + outer <= STREAM_WORDS;
        }

        private void putForm(Form form) {
            bits.put(FORM, nest.inner().width);
            bits.putChunks(form.count, OPS_CHUNK);
            for (int i = 0; i < form.count; i++) {
                putOp(form.kindAt(i), form.numberAt(i));
            }
        }

        private void putOp(int kind, int number) {
            if (kind == LITERAL) {
                bits.put(1, 1);
                bits.putChunks(number, LITERAL_CHUNK);
                return;
            }
            bits.put(0, 1);
            bits.put(kind, KIND_BITS);
            if (kind != ROW) {
                bits.putChunks(number, OP_WIDTH_CHUNK);
            }
        }

        private void putPlain() {
            bits.putChunks(numbers[0], RECORD_CHUNK);
            bits.putChunks(total - 1, RECORD_CHUNK);
            for (int i = 1; i < total; i++) {
                bits.putChunks(numbers[i], RECORD_CHUNK);
            }
        }

        private void putByForm(Form form) {
            int singles = form.singles();
            for (int i = 0; i < singles; i++) {
                putByOp(form, i, numbers[i]);
            }
            if (!form.hasRow()) {
                return;
            }
            bits.putChunks(total - singles, RECORD_CHUNK);
            for (int i = singles; i < total; i++) {
                putByOp(form, form.count - 1, numbers[i]);
            }
        }

        private void putByOp(Form form, int op, int number) {
            if (form.kindAt(op) == FIXED) {
                bits.put(number, form.numberAt(op));
            } else if (form.kindAt(op) == CHUNKED) {
                bits.putChunks(number, form.numberAt(op));
            }
        }
    }

    private static final class Reader {
        private final Nest nest = new Nest();
        private final int[] row = new int[STREAM_WORDS];
        private int size = 0;
        private int place = 0;
        private boolean faulty = false;
        // A record's numbers while they are read: a fault among them must not touch what is shown.
        private final int[] fresh = new int[MAX_NUMBERS];
        // What info() shows: a record's code, form and number of values, and the values.
        private final int[] shown = new int[MAX_NUMBERS + 2];
        private int shownCount = 0;

        void goBack() {
            nest.startAnew();
            place = 0;
            faulty = false;
            shownCount = 0;
        }

        int takeOver(Bits bits) {
            System.arraycopy(bits.row, 0, row, 0, STREAM_WORDS);
            size = bits.wordCount();
            goBack();
            return size;
        }

        int appendWord(int word) {
            if (size >= STREAM_WORDS) {
                return -1;
            }
            row[size] = word;
            size++;
            goBack();
            return size;
        }

        boolean replaceWord(int i, int word) {
            if (i < 0 || i >= size) {
                return false;
            }
            row[i] = word;
            goBack();
            return true;
        }

        int removeAll() {
            int had = size;
            size = 0;
            goBack();
            return had;
        }

        int shownAt(int i) {
            return i >= 0 && i < shownCount ? shown[i] : -1;
        }

        int readOn() {
            if (faulty) {
                throw new IllegalStateException("the stream was found faulty");
            }
            if (nest.depth == 0 && place == size * WORD_BITS) {
                shownCount = 0;
                return READ_END;
            }
            // Whatever throws below leaves it so.
            faulty = true;
            int answer = readItem(nest.inner());
            faulty = false;
            return answer;
        }

        private int readItem(Block block) {
            int number = take(block.width);
            if (number == ENTER) {
                return readEnter();
            }
            if (nest.depth == 0) {
                throw new IllegalArgumentException("only ENTER may stand at depth 0");
            }
            if (number == LEAVE) {
                return readLeave(block);
            }
            if (number == FORM) {
                return readForm();
            }
            int total = number == PLAIN ? takePlain() : takeByForm(nest.find(number));
            if (nest.isInInfo()) {
                takeTarget(block, total);
            }
            return showRecord(number, total);
        }

        private int readEnter() {
            if (nest.isDeepest() || nest.isInInfo()) {
                throw new IllegalArgumentException("no block may stand here");
            }
            int id = takeChunks(ID_CHUNK);
            int width = takeChunks(WIDTH_CHUNK);
            if (!isBlockHead(id, width)) {
                throw new IllegalArgumentException("no such id or width");
            }
            takeZeros();
            int length = takeLength();
            nest.push(id, width, place / WORD_BITS, length);
            shown[0] = id;
            shown[1] = width;
            shown[2] = length;
            shownCount = 3;
            return READ_ENTER;
        }

        private int readLeave(Block block) {
            takeZeros();
            if (place / WORD_BITS - block.start != block.length) {
                throw new IllegalArgumentException("the block's length is another");
            }
            nest.pop();
            shown[0] = block.id;
            shownCount = 1;
            return READ_LEAVE;
        }

        private int readForm() {
            int formRow = nest.rowToExtend();
            if (formRow == NO_ROW || !nest.rows.hasRoom(formRow)) {
                throw new IllegalArgumentException("no form may stand here");
            }
            int count = takeChunks(OPS_CHUNK);
            if (count > MAX_OPS) {
                throw new IllegalArgumentException("too many ops");
            }
            Form form = new Form();
            for (int i = 0; i < count; i++) {
                takeOp(form);
            }
            if (!form.isForm()) {
                throw new IllegalArgumentException("the ops are no form");
            }
            shown[0] = count;
            shown[1] = nest.rows.addForm(formRow, form);
            shownCount = 2;
            return READ_FORM;
        }

        private void takeOp(Form form) {
            if (take(1) == 1) {
                form.addOp(LITERAL, takeChunks(LITERAL_CHUNK));
                return;
            }
            int kind = take(KIND_BITS);
            int width = kind == FIXED || kind == CHUNKED ? takeChunks(OP_WIDTH_CHUNK) : 0;
            // A LITERAL is told by the bit alone: as a kind it is none of those named.
            if (kind == LITERAL || !isOp(kind, width)) {
                throw new IllegalArgumentException("no such op");
            }
            form.addOp(kind, width);
        }

        /** Takes a PLAIN record: how many numbers it has, its code among them. */
        private int takePlain() {
            fresh[0] = takeChunks(RECORD_CHUNK);
            int values = takeChunks(RECORD_CHUNK);
            if (values > MAX_NUMBERS - 1) {
                throw new IllegalArgumentException("too many values");
            }
            for (int i = 1; i <= values; i++) {
                fresh[i] = takeChunks(RECORD_CHUNK);
            }
            return values + 1;
        }

        /** Takes a record by its form: how many numbers it has, its code among them. */
        private int takeByForm(Form form) {
            if (form == null) {
                throw new IllegalArgumentException("there is no such form");
            }
            int singles = form.singles();
            for (int i = 0; i < singles; i++) {
                fresh[i] = takeByOp(form, i);
            }
            if (!form.hasRow()) {
                return singles;
            }
            int left = takeChunks(RECORD_CHUNK);
            if (left > MAX_NUMBERS - singles || singles + left == 0) {
                throw new IllegalArgumentException("too many values, or no code");
            }
            for (int i = singles; i < singles + left; i++) {
                fresh[i] = takeByOp(form, form.count - 1);
            }
            return singles + left;
        }

        private int takeByOp(Form form, int op) {
            int number = form.numberAt(op);
            switch (form.kindAt(op)) {
                case FIXED:
                    return take(number);
                case CHUNKED:
                    return takeChunks(number);
                default:
                    return number;
            }
        }

        private void takeTarget(Block block, int total) {
            if (!namesTarget(fresh, total)) {
                throw new IllegalArgumentException("the record may not stand in INFO");
            }
            block.target = fresh[1];
        }

        private int showRecord(int form, int total) {
            shown[0] = fresh[0];
            shown[1] = form;
            shown[2] = total - 1;
            System.arraycopy(fresh, 1, shown, 3, total - 1);
            shownCount = total + 2;
            return READ_RECORD;
        }

        /** Takes a number of 1 to 32 bits. */
        private int take(int count) {
            if (count > size * WORD_BITS - place) {
                throw new IllegalArgumentException("the stream ends too early");
            }
            int index = place / WORD_BITS;
            int shift = place % WORD_BITS;
            int number = row[index] >>> shift;
            if (shift + count > WORD_BITS) {
                number |= row[index + 1] << (WORD_BITS - shift);
            }
            place += count;
            return count < WORD_BITS ? number & ((1 << count) - 1) : number;
        }

        /** A whole word has a bit more than a number may have. */
        private int takeLength() {
            int length = take(WORD_BITS);
            if (length < 0) {
                throw new IllegalArgumentException("a number is too large");
            }
            return length;
        }

        private int takeChunks(int width) {
            int low = width - 1;
            int shift = 0;
            long number = 0;
            // There are fewer chunks in any stream than bits.
            for (int turn = 0; turn < STREAM_BITS; turn++) {
                int chunk = take(width);
                long part = chunk & ((1 << low) - 1);
                if (part != 0 && shift > 30) {
                    throw new IllegalArgumentException("a number is too large");
                }
                number |= part << shift;
                if (number > MAX_NUMBER) {
                    throw new IllegalArgumentException("a number is too large");
                }
                if (chunk >>> low == 0) {
                    return (int) number;
                }
                shift += low;
            }
            throw new IllegalArgumentException("a number has no end");
        }

        private void takeZeros() {
            int count = (WORD_BITS - place % WORD_BITS) % WORD_BITS;
            if (count > 0 && take(count) != 0) {
                throw new IllegalArgumentException("zeros are not zeros");
            }
        }
    }
}
