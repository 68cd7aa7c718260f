/**
 * One row of bytes seen through views. The document numbers what it promises; the terms in
 * capitals there are the names used here in small letters.
 */
public final class ByteViews {
    public static final int NONE = -1;

    private static final int FIRST_BYTES = 64;
    private static final int MOST_BYTES = 256;
    private static final int MOST_TAPE = 500;
    private static final int MOST_SHOWN = 256;
    private static final int FED_AT_ONCE = 20;
    private static final int MOST_VIEWS = 16;
    private static final int MOST_FIELDS = 8;
    private static final int MOST_FIELD_BITS = 63;
    private static final int MOST_ELEMENTS = 64;
    private static final int MOST_HISTORY = 8;
    private static final int MOST_TROUBLES = 20;
    private static final int MOST_OPEN = 5;
    private static final int MOST_LETTERS = 6;
    private static final int VIEW_DIGITS = 3;
    private static final int SCRIPT_DIGITS = 9;
    private static final long NO_ELEMENT = Long.MIN_VALUE + 7;

    private static final int FREE = 0;
    private static final int READ_ONLY = 1;
    private static final int ONES = 2;
    private static final int READS = 3;

    private static final int FAULT_PLACE = 1;
    private static final int FAULT_NAME = 2;
    private static final int FAULT_NUMBER = 3;
    private static final int FAULT_MANY = 4;
    private static final int FAULT_OPEN = 5;

    private static final Kind[] KINDS = Kind.values();

    private final Text tape;
    private final Text shown;
    private final Bytes bytes;
    private final Shelf shelf;
    private final Tokens tokens;
    private final ViewReader viewReader;
    private final ScriptReader scriptReader;
    private final Machine machine;
    private final long[] row;

    public ByteViews() {
        tape = new Text(MOST_TAPE);
        shown = new Text(MOST_SHOWN);
        bytes = new Bytes();
        shelf = new Shelf();
        tokens = new Tokens(tape);
        Code code = new Code();
        viewReader = new ViewReader(tokens, shelf);
        scriptReader = new ScriptReader(tokens, shelf, code);
        machine = new Machine(code, shelf, bytes);
        row = new long[MOST_ELEMENTS];
    }

    public boolean memory(int n) {
        if (n < 1 || n > MOST_BYTES) {
            return false;
        }
        bytes.restart(n);
        shelf.empty();
        return true;
    }

    public int feed(int a, int b, int c, int d, int e) {
        if (tape.length() + FED_AT_ONCE > MOST_TAPE) {
            return NONE;
        }
        tape.addFour(a);
        tape.addFour(b);
        tape.addFour(c);
        tape.addFour(d);
        tape.addFour(e);
        return tape.length();
    }

    public boolean end(int n) {
        if (n < 0 || n > tape.length()) {
            return false;
        }
        tape.cut(n);
        return true;
    }

    public int views() {
        tokens.forgetFault();
        tokens.scan(VIEW_DIGITS);
        tape.cut(0);
        return viewReader.tellAll(bytes.size()) ? shelf.count() : NONE;
    }

    public int script() {
        tokens.forgetFault();
        tokens.scan(SCRIPT_DIGITS);
        tape.cut(0);
        if (!scriptReader.compile()) {
            return NONE;
        }
        bytes.begin();
        int done = machine.run();
        bytes.keep();
        return done;
    }

    public int fault(int what) {
        if (what == 0) {
            return tokens.faultNumber();
        }
        return what == 1 ? tokens.faultPlace() : NONE;
    }

    public int trouble(int i) {
        return i == NONE ? machine.troubleCount() : machine.troubleAt(i);
    }

    public int view(int v, int what) {
        View view = shelf.get(v);
        return view == null ? NONE : view.told(what);
    }

    public int named() {
        tokens.scan(VIEW_DIGITS);
        tape.cut(0);
        if (!tokens.isName()) {
            return NONE;
        }
        long name = tokens.value();
        tokens.advance();
        return tokens.isEnd() ? shelf.numberOf(name) : NONE;
    }

    public long read(int v, int i) {
        View view = shelf.get(v);
        if (view == null || !view.hasElement(i)) {
            return NO_ELEMENT;
        }
        bytes.begin();
        long answer = view.answerOf(view.bitsAt(bytes, i));
        view.clearIfRead(bytes, i);
        bytes.keep();
        return answer;
    }

    public long peek(int v, int i) {
        View view = shelf.get(v);
        if (view == null || !view.hasElement(i)) {
            return NO_ELEMENT;
        }
        return view.answerOf(view.bitsAt(bytes, i));
    }

    public long field(int v, int i, int f) {
        View view = shelf.get(v);
        if (view == null || !view.hasElement(i) || !view.hasField(f)) {
            return NONE;
        }
        return view.fieldOf(f, view.bitsAt(bytes, i));
    }

    public boolean write(int v, int i, long x) {
        View view = shelf.get(v);
        if (view == null || !view.hasElement(i) || view.isReadOnly()) {
            return false;
        }
        bytes.begin();
        view.put(bytes, i, view.bitsOfWhole(x));
        bytes.keep();
        return true;
    }

    public boolean writeFloat(int v, int i, long bits) {
        View view = shelf.get(v);
        if (view == null || !view.hasElement(i) || view.isReadOnly()) {
            return false;
        }
        bytes.begin();
        view.put(bytes, i, view.bitsOfFloat(bits));
        bytes.keep();
        return true;
    }

    public int at(int offset) {
        return bytes.has(offset) ? bytes.get(offset) : NONE;
    }

    public boolean poke(int offset, int v) {
        if (!bytes.has(offset)) {
            return false;
        }
        bytes.begin();
        bytes.set(offset, v);
        bytes.keep();
        return true;
    }

    public int changed(int i) {
        int count = 0;
        for (int offset = 0; offset < bytes.size(); offset++) {
            if (bytes.differs(offset)) {
                if (count == i) {
                    return offset;
                }
                count++;
            }
        }
        return i == NONE ? count : NONE;
    }

    public int seen(int v, int i) {
        View view = shelf.get(v);
        if (view == null) {
            return NONE;
        }
        int count = 0;
        for (int element = 0; element < view.count; element++) {
            if (view.differsAt(bytes, element)) {
                if (count == i) {
                    return element;
                }
                count++;
            }
        }
        return i == NONE ? count : NONE;
    }

    public int over(int v, int w) {
        View one = shelf.get(v);
        View other = shelf.get(w);
        if (one == null || other == null) {
            return NONE;
        }
        int common = 0;
        for (int offset = 0; offset < bytes.size(); offset++) {
            if (one.covers(offset) && other.covers(offset)) {
                common++;
            }
        }
        return common;
    }

    public int here(int offset) {
        return bytes.has(offset) ? shelf.covering(offset) : NONE;
    }

    public int copy(int from, int to) {
        View source = shelf.get(from);
        View target = shelf.get(to);
        if (source == null || target == null || target.isReadOnly()) {
            return NONE;
        }
        int count = Math.min(source.count, target.count);
        bytes.begin();
        for (int i = 0; i < count; i++) {
            long value = source.valueOf(source.bitsAt(bytes, i));
            target.put(bytes, i, target.bitsOfValue(value, source.kind.floating));
        }
        bytes.keep();
        return count;
    }

    public boolean turn(int v) {
        View view = shelf.get(v);
        if (view == null || view.isReadOnly()) {
            return false;
        }
        bytes.begin();
        view.bitsInto(bytes, row);
        view.big = !view.big;
        view.layRow(bytes, row, 0);
        bytes.keep();
        return true;
    }

    public boolean sort(int v) {
        View view = shelf.get(v);
        if (view == null || view.access != FREE || view.stride < view.kind.bytes) {
            return false;
        }
        bytes.begin();
        view.bitsInto(bytes, row);
        view.orderRow(row);
        view.layRow(bytes, row, 0);
        bytes.keep();
        return true;
    }

    public int fill(int v, long x) {
        View view = shelf.get(v);
        if (view == null || view.isReadOnly()) {
            return NONE;
        }
        bytes.begin();
        for (int i = 0; i < view.count; i++) {
            view.put(bytes, i, view.bitsOfWhole(x));
        }
        bytes.keep();
        return view.count;
    }

    public boolean roll(int v, int n) {
        View view = shelf.get(v);
        if (view == null || view.isReadOnly() || n < 0 || n > MOST_ELEMENTS) {
            return false;
        }
        bytes.begin();
        view.bitsInto(bytes, row);
        view.layRow(bytes, row, n);
        bytes.keep();
        return true;
    }

    public int show(int v) {
        View view = shelf.get(v);
        if (view == null) {
            return NONE;
        }
        shown.cut(0);
        view.addHead(shown);
        view.addFields(shown);
        return shown.length();
    }

    public int out(int i) {
        return shown.has(i) ? shown.get(i) : NONE;
    }

    public int find(int v, int i, long x) {
        View view = shelf.get(v);
        if (view == null || i < 0 || i > view.count) {
            return NONE;
        }
        for (int element = i; element < view.count; element++) {
            if (view.isAlike(view.bitsAt(bytes, element), x)) {
                return element;
            }
        }
        return NONE;
    }

    public long sum(int v) {
        View view = shelf.get(v);
        if (view == null) {
            return NONE;
        }
        long total = 0;
        for (int i = 0; i < view.count; i++) {
            long value = view.valueOf(view.bitsAt(bytes, i));
            total = view.kind.floating ? Floats.add(total, value) : total + value;
        }
        return total;
    }

    public long rest(int v, int i, long x) {
        View view = shelf.get(v);
        if (view == null || !view.kind.floating || !view.hasElement(i)) {
            return NONE;
        }
        return Floats.remainder(view.valueOf(view.bitsAt(bytes, i)), Floats.ofWhole(x));
    }

    public boolean undo() {
        return bytes.stepBack();
    }

    public int look(int what) {
        switch (what) {
            case 0:
                return bytes.size();
            case 1:
                return shelf.count();
            case 2:
                return bytes.countSet();
            case 3:
                return bytes.historyCount();
            case 4:
                return tape.length();
            case 5:
                return uncovered();
            case 6:
                return bytes.total();
            default:
                return NONE;
        }
    }

    private int uncovered() {
        int count = 0;
        for (int offset = 0; offset < bytes.size(); offset++) {
            if (shelf.covering(offset) == 0) {
                count++;
            }
        }
        return count;
    }

    /** What an element is made of; the numbers are those that view() tells. */
    private enum Kind {
        U8(0, "u8", 1, false, false),
        S8(1, "s8", 1, true, false),
        U16(2, "u16", 2, false, false),
        S16(3, "s16", 2, true, false),
        U32(4, "u32", 4, false, false),
        S32(5, "s32", 4, true, false),
        S64(6, "s64", 8, true, false),
        F32(7, "f32", 4, true, true),
        F64(8, "f64", 8, true, true);

        final int number;
        final String word;
        final int bytes;
        final boolean signed;
        final boolean floating;

        Kind(int number, String word, int bytes, boolean signed, boolean floating) {
            this.number = number;
            this.word = word;
            this.bytes = bytes;
            this.signed = signed;
            this.floating = floating;
        }
    }

    /** A row of signs with an end: the tape, and what was shown. */
    private static final class Text {
        private final int[] signs;
        private int length;

        Text(int most) {
            signs = new int[most];
        }

        int length() {
            return length;
        }

        boolean has(int i) {
            return i >= 0 && i < length;
        }

        int get(int i) {
            return i >= 0 && i < signs.length ? signs[i] : 0;
        }

        void cut(int n) {
            length = n;
        }

        void add(int sign) {
            if (length < signs.length) {
                signs[length] = sign & 255;
                length++;
            }
        }

        void addFour(int number) {
            add(number >>> 24);
            add(number >>> 16);
            add(number >>> 8);
            add(number);
        }

        void addWord(String word) {
            for (int i = 0; i < word.length(); i++) {
                add(word.charAt(i));
            }
        }

        void addPacked(long name) {
            for (int shift = 8 * (MOST_LETTERS - 1); shift >= 0; shift -= 8) {
                int sign = (int) (name >>> shift) & 255;
                if (sign != 0) {
                    add(sign);
                }
            }
        }

        void addNumber(int number) {
            if (number >= 100) {
                add('0' + number / 100 % 10);
            }
            if (number >= 10) {
                add('0' + number / 10 % 10);
            }
            add('0' + number % 10);
        }
    }

    /** The memory, how it was ahead of the latest call, and the history. */
    private static final class Bytes {
        private final int[] now;
        private final int[] ahead;
        private final int[][] history;
        private int size;
        private int oldest;
        private int historyCount;

        Bytes() {
            now = new int[MOST_BYTES];
            ahead = new int[MOST_BYTES];
            history = new int[MOST_HISTORY][MOST_BYTES];
            size = FIRST_BYTES;
        }

        void restart(int n) {
            for (int i = 0; i < MOST_BYTES; i++) {
                now[i] = 0;
                ahead[i] = 0;
            }
            size = n;
            oldest = 0;
            historyCount = 0;
        }

        int size() {
            return size;
        }

        int historyCount() {
            return historyCount;
        }

        boolean has(int offset) {
            return offset >= 0 && offset < size;
        }

        int get(int offset) {
            return offset >= 0 && offset < MOST_BYTES ? now[offset] : 0;
        }

        void set(int offset, int value) {
            if (offset >= 0 && offset < MOST_BYTES) {
                now[offset] = value & 255;
            }
        }

        boolean differs(int offset) {
            return offset >= 0 && offset < MOST_BYTES && now[offset] != ahead[offset];
        }

        /** Only a call that isn't refused comes here: a refused one leaves the changes alone. */
        void begin() {
            System.arraycopy(now, 0, ahead, 0, MOST_BYTES);
        }

        void keep() {
            if (!anyDiffers()) {
                return;
            }
            if (historyCount == MOST_HISTORY) {
                oldest = (oldest + 1) % MOST_HISTORY;
                historyCount--;
            }
            int slot = (oldest + historyCount) % MOST_HISTORY;
            System.arraycopy(ahead, 0, history[slot], 0, MOST_BYTES);
            historyCount++;
        }

        boolean stepBack() {
            if (historyCount == 0) {
                return false;
            }
            begin();
            historyCount--;
            loadFrom(history[(oldest + historyCount) % MOST_HISTORY]);
            return true;
        }

        void saveInto(int[] saved) {
            System.arraycopy(now, 0, saved, 0, MOST_BYTES);
        }

        void loadFrom(int[] saved) {
            System.arraycopy(saved, 0, now, 0, MOST_BYTES);
        }

        int countSet() {
            int count = 0;
            for (int i = 0; i < size; i++) {
                if (now[i] != 0) {
                    count++;
                }
            }
            return count;
        }

        int total() {
            int total = 0;
            for (int i = 0; i < size; i++) {
                total += now[i];
            }
            return total;
        }

        private boolean anyDiffers() {
            for (int i = 0; i < size; i++) {
                if (now[i] != ahead[i]) {
                    return true;
                }
            }
            return false;
        }
    }

    /**
     * One view. Its bits are those of an element as they stand in memory; its value is the whole
     * number they mean, or for floating kinds the bits of the double they mean.
     */
    private static final class View {
        private final long[] fieldNames;
        private final int[] lows;
        private final int[] highs;
        long name;
        Kind kind;
        boolean big;
        int start;
        int count;
        int stride;
        int access;
        int fieldCount;

        View() {
            fieldNames = new long[MOST_FIELDS];
            lows = new int[MOST_FIELDS];
            highs = new int[MOST_FIELDS];
            kind = Kind.U8;
        }

        void restart(long newName) {
            name = newName;
            kind = Kind.U8;
            big = false;
            start = 0;
            count = 1;
            stride = 1;
            access = FREE;
            fieldCount = 0;
        }

        void addField(long newName, int low, int high) {
            if (fieldCount < MOST_FIELDS) {
                fieldNames[fieldCount] = newName;
                lows[fieldCount] = low;
                highs[fieldCount] = high;
                fieldCount++;
            }
        }

        int fieldNumberOf(long wanted) {
            for (int f = 0; f < fieldCount && f < MOST_FIELDS; f++) {
                if (fieldNames[f] == wanted) {
                    return f;
                }
            }
            return NONE;
        }

        int told(int what) {
            switch (what) {
                case 0:
                    return kind.number;
                case 1:
                    return big ? 1 : 0;
                case 2:
                    return start;
                case 3:
                    return count;
                case 4:
                    return stride;
                case 5:
                    return access;
                case 6:
                    return fieldCount;
                default:
                    return NONE;
            }
        }

        boolean hasElement(long i) {
            return i >= 0 && i < count;
        }

        boolean hasField(int f) {
            return f >= 0 && f < fieldCount && f < MOST_FIELDS;
        }

        boolean isReadOnly() {
            return access == READ_ONLY;
        }

        int endOfRow() {
            return start + (count - 1) * stride + kind.bytes;
        }

        /** The last element that begins at the byte or ahead of it has it, if one has. */
        boolean covers(int offset) {
            int behind = offset - start;
            if (behind < 0 || stride < 1) {
                return false;
            }
            int i = Math.min(behind / stride, count - 1);
            return behind - i * stride < kind.bytes;
        }

        boolean differsAt(Bytes bytes, int i) {
            for (int k = 0; k < kind.bytes; k++) {
                if (bytes.differs(start + i * stride + k)) {
                    return true;
                }
            }
            return false;
        }

        long bitsAt(Bytes bytes, int i) {
            int offset = start + i * stride;
            long bits = 0;
            for (int k = 0; k < kind.bytes; k++) {
                bits = bits << 8 | bytes.get(offset + (big ? k : kind.bytes - 1 - k));
            }
            return bits;
        }

        void lay(Bytes bytes, int i, long bits) {
            int offset = start + i * stride;
            for (int k = 0; k < kind.bytes; k++) {
                bytes.set(offset + (big ? kind.bytes - 1 - k : k), (int) (bits >>> 8 * k) & 255);
            }
        }

        /** Written as a program writes, so that ones holds; lay() is for bits moved as they are. */
        void put(Bytes bytes, int i, long bits) {
            lay(bytes, i, access == ONES ? bitsAt(bytes, i) & ~bits : bits);
        }

        void clearIfRead(Bytes bytes, int i) {
            if (access == READS) {
                lay(bytes, i, 0);
            }
        }

        void bitsInto(Bytes bytes, long[] row) {
            for (int i = 0; i < count && i < row.length; i++) {
                row[i] = bitsAt(bytes, i);
            }
        }

        void layRow(Bytes bytes, long[] row, int skipped) {
            for (int i = 0; i < count && i < row.length; i++) {
                int from = count > 0 ? (i + skipped) % count : 0;
                if (from >= 0 && from < row.length) {
                    lay(bytes, i, row[from]);
                }
            }
        }

        /** Orders bits by the values they mean; a NaN comes out as the one that a write lays. */
        void orderRow(long[] row) {
            for (int i = 0; i < count && i < row.length; i++) {
                long key = orderOf(valueOf(row[i]));
                int to = i;
                for (int k = i - 1; k >= 0 && row[k] > key; k--) {
                    row[k + 1] = row[k];
                    to = k;
                }
                row[to] = key;
            }
            for (int i = 0; i < count && i < row.length; i++) {
                row[i] = bitsOfValue(orderOf(row[i]), kind.floating);
            }
        }

        /** Values as longs that rise as the values do; done twice it gives the value again. */
        private long orderOf(long value) {
            return kind.floating ? Floats.orderOf(value) : value;
        }

        long valueOf(long bits) {
            if (kind.floating) {
                return kind.bytes == 4 ? Floats.widened(bits) : Floats.plain(bits);
            }
            int spare = 64 - 8 * kind.bytes;
            return kind.signed ? bits << spare >> spare : bits;
        }

        long answerOf(long bits) {
            long value = valueOf(bits);
            return kind.floating && kind.bytes == 4 ? (int) Floats.narrowed(value) : value;
        }

        long bitsOfWhole(long x) {
            if (kind.floating) {
                return kind.bytes == 4 ? Floats.smallOfWhole(x) : Floats.ofWhole(x);
            }
            return x;
        }

        long bitsOfFloat(long x) {
            if (kind.floating) {
                return kind.bytes == 4 ? Floats.narrowed(x) : Floats.plain(x);
            }
            return Floats.toWhole(x);
        }

        long bitsOfValue(long value, boolean floating) {
            return floating ? bitsOfFloat(value) : bitsOfWhole(value);
        }

        boolean isAlike(long bits, long x) {
            long value = valueOf(bits);
            return kind.floating ? Floats.alike(value, Floats.ofWhole(x)) : value == x;
        }

        long fieldOf(int f, long bits) {
            return hasField(f) ? bits >>> lows[f] & maskOf(f) : 0;
        }

        long withField(int f, long bits, long value) {
            if (!hasField(f)) {
                return bits;
            }
            long mask = maskOf(f);
            return bits & ~(mask << lows[f]) | (value & mask) << lows[f];
        }

        private long maskOf(int f) {
            return (1L << highs[f] - lows[f] + 1) - 1;
        }

        void addHead(Text shown) {
            shown.addPacked(name);
            shown.add(' ');
            shown.addWord(kind.word);
            if (big) {
                shown.addWord(" big");
            }
            shown.addWord(" at ");
            shown.addNumber(start);
            boolean strided = stride != kind.bytes;
            if (count > 1 || strided) {
                shown.addWord(" x ");
                shown.addNumber(count);
            }
            if (strided) {
                shown.addWord(" by ");
                shown.addNumber(stride);
            }
            if (access == READ_ONLY) {
                shown.addWord(" ro");
            } else if (access == ONES) {
                shown.addWord(" ones");
            } else if (access == READS) {
                shown.addWord(" reads");
            }
        }

        void addFields(Text shown) {
            if (fieldCount == 0) {
                return;
            }
            for (int f = 0; f < fieldCount && f < MOST_FIELDS; f++) {
                shown.add(f == 0 ? '{' : ',');
                shown.addPacked(fieldNames[f]);
                shown.add(':');
                shown.addNumber(lows[f]);
                shown.add('-');
                shown.addNumber(highs[f]);
            }
            shown.add('}');
        }
    }

    /** The views that stand, and beside them those that a text is just telling. */
    private static final class Shelf {
        private View[] standing;
        private View[] coming;
        private int standingCount;
        private int comingCount;

        Shelf() {
            standing = new View[MOST_VIEWS];
            coming = new View[MOST_VIEWS];
            for (int i = 0; i < MOST_VIEWS; i++) {
                standing[i] = new View();
                coming[i] = new View();
            }
        }

        int count() {
            return standingCount;
        }

        void empty() {
            standingCount = 0;
        }

        View get(int v) {
            return v >= 0 && v < standingCount && v < MOST_VIEWS ? standing[v] : null;
        }

        int numberOf(long name) {
            return numberAmong(standing, standingCount, name);
        }

        int covering(int offset) {
            int found = 0;
            for (int v = 0; v < standingCount && v < MOST_VIEWS; v++) {
                if (standing[v].covers(offset)) {
                    found |= 1 << v;
                }
            }
            return found;
        }

        void startComing() {
            comingCount = 0;
        }

        boolean hasComing(long name) {
            return numberAmong(coming, comingCount, name) != NONE;
        }

        /** The place of the next one to come; null if there is no room. */
        View nextComing() {
            return comingCount >= 0 && comingCount < MOST_VIEWS ? coming[comingCount] : null;
        }

        void keepComing() {
            comingCount++;
        }

        void takeComing() {
            View[] gone = standing;
            standing = coming;
            coming = gone;
            standingCount = comingCount;
        }

        private static int numberAmong(View[] row, int count, long name) {
            for (int v = 0; v < count && v < row.length; v++) {
                if (row[v].name == name) {
                    return v;
                }
            }
            return NONE;
        }
    }

    /**
     * A text cut into words, numbers and signs, the one that is looked at, and the fault that was
     * found. Words are packed into longs, eight bits a letter.
     */
    private static final class Tokens {
        private static final int END = 0;
        private static final int NAME = 1;
        private static final int RESERVED = 2;
        private static final int NUMBER = 3;
        private static final int SIGN = 4;
        private static final int BAD = 5;

        private final Text text;
        private final int[] types;
        private final int[] places;
        private final int[] lengths;
        private final long[] values;
        private int count;
        private int current;
        private int faultNumber;
        private int faultPlace;

        Tokens(Text text) {
            this.text = text;
            types = new int[MOST_TAPE + 1];
            places = new int[MOST_TAPE + 1];
            lengths = new int[MOST_TAPE + 1];
            values = new long[MOST_TAPE + 1];
            faultPlace = NONE;
        }

        void forgetFault() {
            faultNumber = 0;
            faultPlace = NONE;
        }

        void scan(int mostDigits) {
            count = 0;
            current = 0;
            int place = 0;
            int length = text.length();
            for (int steps = 0; steps < MOST_TAPE && place < length; steps++) {
                int sign = text.get(place);
                if (isLetter(sign)) {
                    place = addWordFrom(place);
                } else if (isDigit(sign)) {
                    place = addNumberFrom(place, mostDigits);
                } else {
                    if (sign != ' ' && sign != '\n') {
                        addToken(SIGN, place, 1, sign);
                    }
                    place++;
                }
            }
            addToken(END, length, 0, 0);
        }

        private int addWordFrom(int place) {
            int behind = place;
            long word = 0;
            while (behind < text.length() && isLetterOrDigit(text.get(behind))) {
                word = word << 8 | text.get(behind);
                behind++;
            }
            if (behind - place > MOST_LETTERS) {
                addToken(BAD, place, behind - place, 0);
            } else {
                addToken(isReserved(word) ? RESERVED : NAME, place, behind - place, word);
            }
            return behind;
        }

        private int addNumberFrom(int place, int mostDigits) {
            int behind = place;
            long number = 0;
            while (behind < text.length() && isDigit(text.get(behind))) {
                number = number * 10 + (text.get(behind) - '0');
                behind++;
            }
            int digits = behind - place;
            addToken(digits > mostDigits ? BAD : NUMBER, place, digits, number);
            return behind;
        }

        private void addToken(int type, int place, int length, long value) {
            if (count < types.length) {
                types[count] = type;
                places[count] = place;
                lengths[count] = length;
                values[count] = value;
                count++;
            }
        }

        private static boolean isLetter(int sign) {
            return sign >= 'a' && sign <= 'z';
        }

        private static boolean isDigit(int sign) {
            return sign >= '0' && sign <= '9';
        }

        private static boolean isLetterOrDigit(int sign) {
            return isLetter(sign) || isDigit(sign);
        }

        private static boolean isReserved(long word) {
            return word == packed("big") || word == packed("at") || word == packed("x")
                || word == packed("by") || word == packed("ro") || word == packed("ones")
                || word == packed("reads") || word == packed("if") || word == packed("fail")
                || kindOf(word) != null;
        }

        private static long packed(String word) {
            long packed = 0;
            for (int i = 0; i < word.length(); i++) {
                packed = packed << 8 | word.charAt(i);
            }
            return packed;
        }

        private static Kind kindOf(long word) {
            for (int i = 0; i < KINDS.length; i++) {
                if (packed(KINDS[i].word) == word) {
                    return KINDS[i];
                }
            }
            return null;
        }

        private boolean isType(int type) {
            return current < types.length && types[current] == type;
        }

        boolean isEnd() {
            return isType(END);
        }

        boolean isName() {
            return isType(NAME);
        }

        boolean isNumber() {
            return isType(NUMBER);
        }

        boolean isSign(char sign) {
            return current < values.length && types[current] == SIGN && values[current] == sign;
        }

        boolean isWord(String word) {
            return isType(RESERVED) && value() == packed(word);
        }

        /** The kind that stands here; null if none does. */
        Kind kindHere() {
            return isType(RESERVED) ? kindOf(value()) : null;
        }

        long value() {
            return current < values.length ? values[current] : 0;
        }

        int length() {
            return current < lengths.length ? lengths[current] : 0;
        }

        int place() {
            return current < places.length ? places[current] : 0;
        }

        void advance() {
            if (current + 1 < count) {
                current++;
            }
        }

        boolean takeSign(char sign) {
            if (!isSign(sign)) {
                return refuse(FAULT_PLACE);
            }
            advance();
            return true;
        }

        /** Always false, for a caller to hand on. */
        boolean refuse(int fault) {
            faultNumber = fault;
            faultPlace = current < places.length ? places[current] : NONE;
            return false;
        }

        boolean refuseAt(int fault, int place) {
            faultNumber = fault;
            faultPlace = place;
            return false;
        }

        int faultNumber() {
            return faultNumber;
        }

        int faultPlace() {
            return faultPlace;
        }
    }

    /** Reads a text of views; each part answers false behind the first fault. */
    private static final class ViewReader {
        private final Tokens tokens;
        private final Shelf shelf;

        ViewReader(Tokens tokens, Shelf shelf) {
            this.tokens = tokens;
            this.shelf = shelf;
        }

        boolean tellAll(int size) {
            shelf.startComing();
            for (int n = 0; n <= MOST_VIEWS; n++) {
                if (tokens.isEnd()) {
                    shelf.takeComing();
                    return true;
                }
                if (!takeView(size)) {
                    return false;
                }
            }
            return false;
        }

        private boolean takeView(int size) {
            if (!tokens.isName()) {
                return tokens.refuse(FAULT_PLACE);
            }
            if (shelf.hasComing(tokens.value())) {
                return tokens.refuse(FAULT_NAME);
            }
            View view = shelf.nextComing();
            if (view == null) {
                return tokens.refuse(FAULT_MANY);
            }
            view.restart(tokens.value());
            tokens.advance();
            boolean good = takeKind(view) && takeStart(view, size) && takeRow(view, size);
            if (!good) {
                return false;
            }
            takeAccess(view);
            if (!takeFields(view) || !tokens.takeSign(';')) {
                return false;
            }
            shelf.keepComing();
            return true;
        }

        private boolean takeKind(View view) {
            Kind kind = tokens.kindHere();
            if (kind == null) {
                return tokens.refuse(FAULT_PLACE);
            }
            view.kind = kind;
            view.stride = kind.bytes;
            tokens.advance();
            if (tokens.isWord("big")) {
                view.big = true;
                tokens.advance();
            }
            return true;
        }

        private boolean takeStart(View view, int size) {
            if (!tokens.isWord("at")) {
                return tokens.refuse(FAULT_PLACE);
            }
            tokens.advance();
            if (!tokens.isNumber()) {
                return tokens.refuse(FAULT_PLACE);
            }
            view.start = (int) tokens.value();
            if (view.endOfRow() > size) {
                return tokens.refuse(FAULT_NUMBER);
            }
            tokens.advance();
            return true;
        }

        private boolean takeRow(View view, int size) {
            if (!tokens.isWord("x")) {
                return true;
            }
            tokens.advance();
            if (!holdsRowNumber()) {
                return false;
            }
            view.count = (int) tokens.value();
            int place = tokens.place();
            tokens.advance();
            boolean strided = tokens.isWord("by");
            if (strided) {
                tokens.advance();
                if (!holdsRowNumber()) {
                    return false;
                }
                view.stride = (int) tokens.value();
                place = tokens.place();
                tokens.advance();
            }
            return view.endOfRow() <= size || tokens.refuseAt(FAULT_NUMBER, place);
        }

        private boolean holdsRowNumber() {
            if (!tokens.isNumber()) {
                return tokens.refuse(FAULT_PLACE);
            }
            if (tokens.value() < 1 || tokens.value() > MOST_ELEMENTS) {
                return tokens.refuse(FAULT_NUMBER);
            }
            return true;
        }

        private void takeAccess(View view) {
            if (tokens.isWord("ro")) {
                view.access = READ_ONLY;
            } else if (tokens.isWord("ones")) {
                view.access = ONES;
            } else if (tokens.isWord("reads")) {
                view.access = READS;
            }
            if (view.access != FREE) {
                tokens.advance();
            }
        }

        private boolean takeFields(View view) {
            if (!tokens.isSign('{')) {
                return true;
            }
            if (view.kind.floating) {
                return tokens.refuse(FAULT_MANY);
            }
            tokens.advance();
            for (int n = 0; n <= MOST_FIELDS; n++) {
                if (!takeField(view)) {
                    return false;
                }
                if (!tokens.isSign(',')) {
                    return tokens.takeSign('}');
                }
                tokens.advance();
            }
            return false;
        }

        private boolean takeField(View view) {
            if (!tokens.isName()) {
                return tokens.refuse(FAULT_PLACE);
            }
            long name = tokens.value();
            if (view.fieldNumberOf(name) != NONE) {
                return tokens.refuse(FAULT_NAME);
            }
            if (view.fieldCount >= MOST_FIELDS) {
                return tokens.refuse(FAULT_MANY);
            }
            tokens.advance();
            if (!tokens.takeSign(':') || !holdsBit(view)) {
                return false;
            }
            int low = (int) tokens.value();
            tokens.advance();
            if (!tokens.takeSign('-') || !holdsBit(view)) {
                return false;
            }
            int high = (int) tokens.value();
            if (high < low || high - low >= MOST_FIELD_BITS) {
                return tokens.refuse(FAULT_NUMBER);
            }
            view.addField(name, low, high);
            tokens.advance();
            return true;
        }

        /** Looked at for each of a field's two numbers, so that the first by its place is told. */
        private boolean holdsBit(View view) {
            if (!tokens.isNumber()) {
                return tokens.refuse(FAULT_PLACE);
            }
            if (tokens.value() >= 8 * view.kind.bytes) {
                return tokens.refuse(FAULT_NUMBER);
            }
            return true;
        }
    }

    /** A script as steps, each an operation with two numbers. */
    private static final class Code {
        static final int WHOLE = 1;
        static final int FLOAT = 2;
        static final int INDEX = 3;
        static final int LOAD = 4;
        static final int STORE = 5;
        static final int NEGATE = 6;
        static final int LESS = 7;
        static final int MORE = 8;
        static final int ALIKE = 9;
        static final int ADD = 10;
        static final int SUBTRACT = 11;
        static final int MULTIPLY = 12;
        static final int DIVIDE = 13;
        static final int REMAINDER = 14;
        static final int UNLESS = 15;
        static final int FAIL = 16;
        static final int GROUP = 17;
        static final int CLOSE = 18;
        static final int STATEMENT = 19;

        // A sign of the tape makes two steps at most: a name its element and its load.
        private static final int MOST_STEPS = 2 * MOST_TAPE + 2;

        private final int[] operations;
        private final long[] firsts;
        private final int[] seconds;
        private int length;

        Code() {
            operations = new int[MOST_STEPS];
            firsts = new long[MOST_STEPS];
            seconds = new int[MOST_STEPS];
        }

        void clear() {
            length = 0;
        }

        int length() {
            return length;
        }

        int add(int operation, long first, int second) {
            int step = length;
            if (step < MOST_STEPS) {
                operations[step] = operation;
                firsts[step] = first;
                seconds[step] = second;
                length++;
            }
            return step;
        }

        /** The step goes on behind all that stands by now. */
        void leadHere(int step) {
            if (step >= 0 && step < MOST_STEPS) {
                firsts[step] = length;
            }
        }

        int operation(int step) {
            return step >= 0 && step < length ? operations[step] : 0;
        }

        long first(int step) {
            return step >= 0 && step < length ? firsts[step] : 0;
        }

        int second(int step) {
            return step >= 0 && step < length ? seconds[step] : 0;
        }
    }

    /**
     * Makes steps of a script. Brackets and ifs may lie in one another as deep as the tape is
     * long, so what is begun waits on a stack of its own and no method calls itself.
     */
    private static final class ScriptReader {
        private static final int WANT_STATEMENT = 0;
        private static final int WANT_OPERAND = 1;
        private static final int BEHIND_OPERAND = 2;

        // What waits on the stack beside the operations of Code.
        private static final int IN_GROUP = 101;
        private static final int IN_IF = 102;
        private static final int IN_CONDITION = 103;
        private static final int IN_TARGET = 104;
        private static final int IN_VALUE = 105;
        private static final int IN_PARENTHESES = 106;
        private static final int IN_INDEX = 107;

        private static final int NO_FIELD = NONE;
        private static final int WRONG_FIELD = -2;

        private final Tokens tokens;
        private final Shelf shelf;
        private final Code code;
        private final int[] waiting;
        private final int[] waitingFirst;
        private final int[] waitingSecond;
        private int waitingCount;
        private int open;
        private int mode;

        ScriptReader(Tokens tokens, Shelf shelf, Code code) {
            this.tokens = tokens;
            this.shelf = shelf;
            this.code = code;
            waiting = new int[MOST_TAPE + 1];
            waitingFirst = new int[MOST_TAPE + 1];
            waitingSecond = new int[MOST_TAPE + 1];
        }

        boolean compile() {
            code.clear();
            waitingCount = 0;
            open = 0;
            mode = WANT_STATEMENT;
            // Each turn takes a token, or is the one behind the condition of an if.
            for (int turns = 0; turns <= 2 * MOST_TAPE; turns++) {
                if (mode == WANT_STATEMENT && waitingCount == 0 && tokens.isEnd()) {
                    return true;
                }
                boolean good = mode == WANT_STATEMENT ? takeStatement()
                    : mode == WANT_OPERAND ? takeOperand() : takeBehind();
                if (!good) {
                    return false;
                }
            }
            return tokens.refuse(FAULT_PLACE);
        }

        private boolean takeStatement() {
            if (waitingCount == 0) {
                code.add(Code.STATEMENT, 0, 0);
            }
            if (tokens.isWord("if")) {
                tokens.advance();
                await(IN_CONDITION, 0, 0);
                mode = WANT_OPERAND;
                return true;
            }
            if (tokens.isWord("fail")) {
                tokens.advance();
                code.add(Code.FAIL, 0, 0);
                endStatement();
                return tokens.takeSign(';');
            }
            if (tokens.isSign('(')) {
                return takeOpening(IN_GROUP, code.add(Code.GROUP, 0, 0));
            }
            if (tokens.isSign(')') && awaited() == IN_GROUP) {
                closeGroup();
                return true;
            }
            return takeTarget();
        }

        private boolean takeOpening(int what, int first) {
            if (open >= MOST_OPEN) {
                return tokens.refuse(FAULT_OPEN);
            }
            open++;
            await(what, first, 0);
            tokens.advance();
            return true;
        }

        private void closeGroup() {
            code.add(Code.CLOSE, 0, 0);
            code.leadHere(awaitedFirst());
            drop();
            open--;
            tokens.advance();
            endStatement();
        }

        /** A statement that ends also ends every if right round it. */
        private void endStatement() {
            for (int n = waitingCount; n > 0 && awaited() == IN_IF; n--) {
                code.leadHere(awaitedFirst());
                drop();
            }
            mode = WANT_STATEMENT;
        }

        private boolean takeTarget() {
            int v = takeViewName();
            if (v == NONE) {
                return false;
            }
            if (tokens.isSign('[')) {
                tokens.advance();
                await(IN_TARGET, v, 0);
                mode = WANT_OPERAND;
                return true;
            }
            code.add(Code.WHOLE, 0, 0);
            return takeEquals(v);
        }

        private boolean takeEquals(int v) {
            int f = takeFieldName(v);
            if (f == WRONG_FIELD || !tokens.takeSign('=')) {
                return false;
            }
            await(IN_VALUE, v, f);
            mode = WANT_OPERAND;
            return true;
        }

        private boolean takeOperand() {
            if (tokens.isSign('-')) {
                tokens.advance();
                await(Code.NEGATE, 0, 0);
                return true;
            }
            if (tokens.isSign('(')) {
                return takeOpening(IN_PARENTHESES, 0);
            }
            if (tokens.isNumber()) {
                return takeNumber();
            }
            int v = takeViewName();
            if (v == NONE) {
                return false;
            }
            if (tokens.isSign('[')) {
                tokens.advance();
                await(IN_INDEX, v, 0);
                return true;
            }
            code.add(Code.WHOLE, 0, 0);
            return takeLoad(v);
        }

        private boolean takeNumber() {
            long number = tokens.value();
            tokens.advance();
            mode = BEHIND_OPERAND;
            if (!tokens.isSign('.')) {
                code.add(Code.WHOLE, number, 0);
                return true;
            }
            tokens.advance();
            if (!tokens.isNumber()) {
                return tokens.refuse(FAULT_PLACE);
            }
            long power = 1;
            for (int i = 0; i < tokens.length() && i < SCRIPT_DIGITS; i++) {
                power *= 10;
            }
            long part = Floats.divide(Floats.ofWhole(tokens.value()), Floats.ofWhole(power));
            code.add(Code.FLOAT, Floats.add(Floats.ofWhole(number), part), 0);
            tokens.advance();
            return true;
        }

        private boolean takeLoad(int v) {
            int f = takeFieldName(v);
            if (f == WRONG_FIELD) {
                return false;
            }
            code.add(Code.LOAD, v, f);
            mode = BEHIND_OPERAND;
            return true;
        }

        /** The number of the view named here; NONE with a fault. */
        private int takeViewName() {
            if (!tokens.isName()) {
                tokens.refuse(FAULT_PLACE);
                return NONE;
            }
            int v = shelf.numberOf(tokens.value());
            if (v == NONE) {
                tokens.refuse(FAULT_NAME);
                return NONE;
            }
            tokens.advance();
            return v;
        }

        /** The number of the field behind a "."; NO_FIELD without one, WRONG_FIELD with a fault. */
        private int takeFieldName(int v) {
            if (!tokens.isSign('.')) {
                return NO_FIELD;
            }
            tokens.advance();
            if (!tokens.isName()) {
                tokens.refuse(FAULT_PLACE);
                return WRONG_FIELD;
            }
            View view = shelf.get(v);
            int f = view == null ? NONE : view.fieldNumberOf(tokens.value());
            if (f == NONE) {
                tokens.refuse(FAULT_NAME);
                return WRONG_FIELD;
            }
            tokens.advance();
            return f;
        }

        private boolean takeBehind() {
            int operation = operationHere();
            if (operation != NONE) {
                return takeOperation(operation);
            }
            settle(1);
            int v = awaitedFirst();
            switch (awaited()) {
                case IN_PARENTHESES:
                    drop();
                    open--;
                    return tokens.takeSign(')');
                case IN_INDEX:
                    drop();
                    code.add(Code.INDEX, v, 0);
                    return tokens.takeSign(']') && takeLoad(v);
                case IN_TARGET:
                    drop();
                    code.add(Code.INDEX, v, 0);
                    return tokens.takeSign(']') && takeEquals(v);
                case IN_VALUE:
                    code.add(Code.STORE, v, awaitedSecond());
                    drop();
                    endStatement();
                    return tokens.takeSign(';');
                case IN_CONDITION:
                    drop();
                    await(IN_IF, code.add(Code.UNLESS, 0, 0), 0);
                    mode = WANT_STATEMENT;
                    return true;
                default:
                    return tokens.refuse(FAULT_PLACE);
            }
        }

        private boolean takeOperation(int operation) {
            int rank = rankOf(operation);
            if (rank == 1) {
                settle(2);
                if (rankOf(awaited()) == 1) {
                    return tokens.refuse(FAULT_PLACE);
                }
            }
            settle(rank);
            await(operation, 0, 0);
            tokens.advance();
            mode = WANT_OPERAND;
            return true;
        }

        /** What waits and binds at least so tightly has both its operands by now. */
        private void settle(int rank) {
            for (int n = waitingCount; n > 0 && rankOf(awaited()) >= rank; n--) {
                code.add(awaited(), 0, 0);
                drop();
            }
        }

        private int operationHere() {
            if (tokens.isSign('<')) {
                return Code.LESS;
            }
            if (tokens.isSign('>')) {
                return Code.MORE;
            }
            if (tokens.isSign('~')) {
                return Code.ALIKE;
            }
            if (tokens.isSign('+')) {
                return Code.ADD;
            }
            if (tokens.isSign('-')) {
                return Code.SUBTRACT;
            }
            if (tokens.isSign('*')) {
                return Code.MULTIPLY;
            }
            if (tokens.isSign('/')) {
                return Code.DIVIDE;
            }
            return tokens.isSign('%') ? Code.REMAINDER : NONE;
        }

        private static int rankOf(int operation) {
            switch (operation) {
                case Code.LESS:
                case Code.MORE:
                case Code.ALIKE:
                    return 1;
                case Code.ADD:
                case Code.SUBTRACT:
                    return 2;
                case Code.MULTIPLY:
                case Code.DIVIDE:
                case Code.REMAINDER:
                    return 3;
                case Code.NEGATE:
                    return 4;
                default:
                    return 0;
            }
        }

        private void await(int what, int first, int second) {
            if (waitingCount < waiting.length) {
                waiting[waitingCount] = what;
                waitingFirst[waitingCount] = first;
                waitingSecond[waitingCount] = second;
                waitingCount++;
            }
        }

        private int awaited() {
            return waitingCount > 0 ? waiting[waitingCount - 1] : 0;
        }

        private int awaitedFirst() {
            return waitingCount > 0 ? waitingFirst[waitingCount - 1] : 0;
        }

        private int awaitedSecond() {
            return waitingCount > 0 ? waitingSecond[waitingCount - 1] : 0;
        }

        private void drop() {
            if (waitingCount > 0) {
                waitingCount--;
            }
        }
    }

    /** Does the steps of a script. Level 0 is the statement within no other, 1 to 5 the groups. */
    private static final class Machine {
        private static final int ELEMENT = 1;
        private static final int DIVISOR = 2;
        private static final int WRITTEN = 3;
        private static final int FAILED = 4;

        // A value that waits has a sign of its own and one of an operation behind it.
        private static final int MOST_VALUES = MOST_TAPE / 2 + 2;

        private final Code code;
        private final Shelf shelf;
        private final Bytes bytes;
        private final long[] values;
        private final boolean[] floating;
        private final int[][] saved;
        private final int[] savedDone;
        private final int[] groupEnds;
        private final int[] troubles;
        private int valueCount;
        private int level;
        private int done;
        private int next;
        private int troubleCount;

        Machine(Code code, Shelf shelf, Bytes bytes) {
            this.code = code;
            this.shelf = shelf;
            this.bytes = bytes;
            values = new long[MOST_VALUES];
            floating = new boolean[MOST_VALUES];
            saved = new int[MOST_OPEN + 1][MOST_BYTES];
            savedDone = new int[MOST_OPEN + 1];
            groupEnds = new int[MOST_OPEN + 1];
            troubles = new int[MOST_TROUBLES];
        }

        int troubleCount() {
            return troubleCount;
        }

        int troubleAt(int i) {
            return i >= 0 && i < troubleCount && i < MOST_TROUBLES ? troubles[i] : NONE;
        }

        int run() {
            valueCount = 0;
            level = 0;
            done = 0;
            next = 0;
            troubleCount = 0;
            // No step leads back, so no more steps are done than there are.
            for (int turns = 0; turns < code.length() && next < code.length(); turns++) {
                int step = next;
                int operation = code.operation(step);
                long first = code.first(step);
                next++;
                switch (operation) {
                    case Code.WHOLE:
                        push(first, false);
                        break;
                    case Code.FLOAT:
                        push(first, true);
                        break;
                    case Code.INDEX:
                        checkIndex(shelf.get((int) first));
                        break;
                    case Code.LOAD:
                        load(shelf.get((int) first), code.second(step));
                        break;
                    case Code.STORE:
                        store(shelf.get((int) first), code.second(step));
                        break;
                    case Code.NEGATE:
                        negate();
                        break;
                    case Code.UNLESS:
                        leapUnless((int) first);
                        break;
                    case Code.FAIL:
                        meet(FAILED);
                        break;
                    case Code.GROUP:
                        openLevel(level + 1, (int) first);
                        break;
                    case Code.CLOSE:
                        level = Math.max(level - 1, 0);
                        break;
                    case Code.STATEMENT:
                        openLevel(0, code.length());
                        break;
                    default:
                        combine(operation);
                        break;
                }
            }
            return done;
        }

        private void openLevel(int newLevel, int end) {
            if (newLevel >= 0 && newLevel < saved.length) {
                level = newLevel;
                bytes.saveInto(saved[level]);
                savedDone[level] = done;
                groupEnds[level] = end;
            }
        }

        /** Level 0 ends behind the last step, so that without a group the script is over. */
        private void meet(int trouble) {
            if (troubleCount < MOST_TROUBLES) {
                troubles[troubleCount] = trouble;
            }
            troubleCount++;
            if (level >= 0 && level < saved.length) {
                bytes.loadFrom(saved[level]);
                done = savedDone[level];
                next = groupEnds[level];
            }
            level = Math.max(level - 1, 0);
            valueCount = 0;
        }

        private void checkIndex(View view) {
            boolean wasFloat = topIsFloat();
            long index = pop();
            if (wasFloat) {
                index = Floats.toWhole(index);
            }
            if (view != null && view.hasElement(index)) {
                push(index, false);
            } else {
                meet(ELEMENT);
            }
        }

        private void load(View view, int f) {
            int i = (int) pop();
            if (view == null) {
                return;
            }
            long bits = view.bitsAt(bytes, i);
            if (f == NONE) {
                push(view.valueOf(bits), view.kind.floating);
            } else {
                push(view.fieldOf(f, bits), false);
            }
            view.clearIfRead(bytes, i);
        }

        private void store(View view, int f) {
            boolean isFloat = topIsFloat();
            long value = pop();
            int i = (int) pop();
            if (view == null) {
                return;
            }
            if (view.isReadOnly()) {
                meet(WRITTEN);
                return;
            }
            if (f == NONE) {
                view.put(bytes, i, view.bitsOfValue(value, isFloat));
            } else {
                long whole = isFloat ? Floats.toWhole(value) : value;
                view.put(bytes, i, view.withField(f, view.bitsAt(bytes, i), whole));
            }
            done++;
        }

        private void negate() {
            boolean isFloat = topIsFloat();
            long value = pop();
            push(isFloat ? Floats.negative(value) : -value, isFloat);
        }

        private void leapUnless(int target) {
            boolean isFloat = topIsFloat();
            long value = pop();
            if (isFloat ? Floats.isZero(value) : value == 0) {
                next = target;
            }
        }

        private void combine(int operation) {
            boolean rightFloat = topIsFloat();
            long right = pop();
            boolean leftFloat = topIsFloat();
            long left = pop();
            if (leftFloat || rightFloat) {
                long a = leftFloat ? left : Floats.ofWhole(left);
                long b = rightFloat ? right : Floats.ofWhole(right);
                combineFloats(operation, a, b);
            } else {
                combineWholes(operation, left, right);
            }
        }

        private void combineWholes(int operation, long a, long b) {
            switch (operation) {
                case Code.ADD:
                    push(a + b, false);
                    break;
                case Code.SUBTRACT:
                    push(a - b, false);
                    break;
                case Code.MULTIPLY:
                    push(a * b, false);
                    break;
                case Code.DIVIDE:
                case Code.REMAINDER:
                    divideWholes(operation == Code.DIVIDE, a, b);
                    break;
                case Code.LESS:
                    pushTruth(a < b);
                    break;
                case Code.MORE:
                    pushTruth(a > b);
                    break;
                default:
                    pushTruth(a == b);
                    break;
            }
        }

        private void divideWholes(boolean wantsQuotient, long a, long b) {
            if (b == 0) {
                meet(DIVISOR);
            } else {
                push(wantsQuotient ? a / b : a % b, false);
            }
        }

        private void combineFloats(int operation, long a, long b) {
            switch (operation) {
                case Code.ADD:
                    push(Floats.add(a, b), true);
                    break;
                case Code.SUBTRACT:
                    push(Floats.add(a, Floats.negative(b)), true);
                    break;
                case Code.MULTIPLY:
                    push(Floats.multiply(a, b), true);
                    break;
                case Code.DIVIDE:
                    push(Floats.divide(a, b), true);
                    break;
                case Code.REMAINDER:
                    push(Floats.remainder(a, b), true);
                    break;
                case Code.LESS:
                    pushTruth(Floats.less(a, b));
                    break;
                case Code.MORE:
                    pushTruth(Floats.less(b, a));
                    break;
                default:
                    pushTruth(Floats.alike(a, b));
                    break;
            }
        }

        private void pushTruth(boolean truth) {
            push(truth ? 1 : 0, false);
        }

        private void push(long value, boolean isFloat) {
            if (valueCount >= 0 && valueCount < values.length) {
                values[valueCount] = value;
                floating[valueCount] = isFloat;
                valueCount++;
            }
        }

        private boolean topIsFloat() {
            return valueCount > 0 && floating[valueCount - 1];
        }

        private long pop() {
            if (valueCount <= 0) {
                return 0;
            }
            valueCount--;
            return values[valueCount];
        }
    }

    /**
     * Doubles held as their bits in longs, so that no number of the machine is ever NaN and a
     * value can be laid into bytes. Every NaN that comes out is the one of doubleToLongBits.
     * A finite one is digits times two to a power.
     */
    private static final class Floats {
        private static final long SIGN = Long.MIN_VALUE;
        private static final long INFINITE = 0x7ff0000000000000L;
        private static final long NAN = 0x7ff8000000000000L;
        private static final long FRACTION = 0x000fffffffffffffL;
        private static final long LEADING = 0x0010000000000000L;
        private static final int WIDTH = 53;
        private static final int LEAST_POWER = -1074;
        private static final int POWERS = 2046;

        private static final long SMALL_SIGN = 0x80000000L;
        private static final long SMALL_INFINITE = 0x7f800000L;
        private static final long SMALL_NAN = 0x7fc00000L;
        private static final long SMALL_FRACTION = 0x007fffffL;
        private static final long SMALL_LEADING = 0x00800000L;
        private static final int SMALL_WIDTH = 24;
        private static final int SMALL_LEAST_POWER = -149;
        private static final int SMALL_POWERS = 254;

        // Bits kept below the digits while two numbers are added.
        private static final int GUARD = 9;
        private static final int HALF = 26;
        private static final long HALF_MASK = (1L << HALF) - 1;
        private static final int QUOTIENT_BITS = 60;
        private static final int MOST_REMAINDER_TURNS = 2100;

        static boolean isNan(long x) {
            return (x & ~SIGN) > INFINITE;
        }

        static boolean isInfinite(long x) {
            return (x & ~SIGN) == INFINITE;
        }

        static boolean isZero(long x) {
            return (x & ~SIGN) == 0;
        }

        static long plain(long x) {
            return isNan(x) ? NAN : x;
        }

        static long negative(long x) {
            return isNan(x) ? NAN : x ^ SIGN;
        }

        private static long digitsOf(long x) {
            long fraction = x & FRACTION;
            return (x & INFINITE) == 0 ? fraction : fraction | LEADING;
        }

        private static int powerOf(long x) {
            int exponent = (int) (x >>> 52) & 2047;
            return Math.max(exponent, 1) - 1 + LEAST_POWER;
        }

        /** The order of Double.compare, for numbers whose NaN is the plain one. */
        static long orderOf(long x) {
            return x < 0 ? x ^ ~SIGN : x;
        }

        static boolean less(long a, long b) {
            if (isNan(a) || isNan(b) || isZero(a) && isZero(b)) {
                return false;
            }
            return orderOf(a) < orderOf(b);
        }

        static boolean alike(long a, long b) {
            if (isNan(a) || isNan(b)) {
                return false;
            }
            return a == b || isZero(a) && isZero(b);
        }

        static long ofWhole(long x) {
            return x & SIGN | rounded(x < 0 ? -x : x, 0, false);
        }

        /** The bits of the float of a long, rounded once. */
        static long smallOfWhole(long x) {
            return (x < 0 ? SMALL_SIGN : 0) | rounded(x < 0 ? -x : x, 0, true);
        }

        static long toWhole(long x) {
            if (isNan(x)) {
                return 0;
            }
            int power = powerOf(x);
            if (power > 10) {
                return x < 0 ? Long.MIN_VALUE : Long.MAX_VALUE;
            }
            long digits = digitsOf(x);
            long size = 0;
            if (power >= 0) {
                size = digits << power;
            } else if (power > -WIDTH) {
                size = digits >>> -power;
            }
            return x < 0 ? -size : size;
        }

        /** The bits of the double that a float's bits mean. */
        static long widened(long small) {
            long sign = (small & SMALL_SIGN) == 0 ? 0 : SIGN;
            long size = small & ~SMALL_SIGN & 0xffffffffL;
            if (size > SMALL_INFINITE) {
                return NAN;
            }
            if (size == SMALL_INFINITE) {
                return sign | INFINITE;
            }
            int exponent = (int) (size >>> 23);
            long fraction = size & SMALL_FRACTION;
            long digits = exponent == 0 ? fraction : fraction | SMALL_LEADING;
            int power = Math.max(exponent, 1) - 1 + SMALL_LEAST_POWER;
            return sign | rounded(digits, power, false);
        }

        /** The bits of the float that a double is cast to. */
        static long narrowed(long x) {
            if (isNan(x)) {
                return SMALL_NAN;
            }
            long sign = x < 0 ? SMALL_SIGN : 0;
            if (isInfinite(x)) {
                return sign | SMALL_INFINITE;
            }
            return sign | rounded(digitsOf(x), powerOf(x), true);
        }

        /**
         * The nearest number without its sign, the even one of two. Where bits were cut off
         * below the digits, the caller has set their lowest bit.
         */
        private static long rounded(long digits, int power, boolean small) {
            if (digits == 0) {
                return 0;
            }
            int width = small ? SMALL_WIDTH : WIDTH;
            int leastPower = small ? SMALL_LEAST_POWER : LEAST_POWER;
            int powers = small ? SMALL_POWERS : POWERS;
            int length = 64 - Long.numberOfLeadingZeros(digits);
            int cut = Math.max(length - width, leastPower - power);
            int risen = power + cut - leastPower;
            if (risen >= powers) {
                return small ? SMALL_INFINITE : INFINITE;
            }
            long kept = 0;
            if (cut <= 0) {
                kept = digits << -cut;
            } else if (cut <= 63) {
                kept = digits >>> cut;
                long gone = digits & (1L << cut) - 1;
                long half = 1L << cut - 1;
                if (gone > half || gone == half && (kept & 1) == 1) {
                    kept++;
                }
            }
            // The leading digit adds the one that the exponent lacks, and so does a carry.
            return ((long) risen << width - 1) + kept;
        }

        static long add(long a, long b) {
            if (isNan(a) || isNan(b)) {
                return NAN;
            }
            if (isInfinite(a) || isInfinite(b)) {
                boolean against = isInfinite(a) && isInfinite(b) && a != b;
                return against ? NAN : isInfinite(a) ? a : b;
            }
            if (isZero(a) && isZero(b)) {
                return a & b;
            }
            return powerOf(a) >= powerOf(b) ? addLower(a, b) : addLower(b, a);
        }

        /** Adds finite numbers of which the second has no higher power. */
        private static long addLower(long a, long b) {
            int power = powerOf(a);
            long high = digitsOf(a) << GUARD;
            long low = loweredBy(digitsOf(b) << GUARD, power - powerOf(b));
            long total = (a < 0 ? -high : high) + (b < 0 ? -low : low);
            long size = total < 0 ? -total : total;
            return total & SIGN | rounded(size, power - GUARD, false);
        }

        private static long loweredBy(long digits, int shift) {
            if (shift <= 0) {
                return digits;
            }
            if (shift > 62) {
                return digits == 0 ? 0 : 1;
            }
            long gone = digits & (1L << shift) - 1;
            return digits >>> shift | (gone == 0 ? 0 : 1);
        }

        static long multiply(long a, long b) {
            if (isNan(a) || isNan(b)) {
                return NAN;
            }
            long sign = (a ^ b) & SIGN;
            if (isInfinite(a) || isInfinite(b)) {
                return isZero(a) || isZero(b) ? NAN : sign | INFINITE;
            }
            if (isZero(a) || isZero(b)) {
                return sign;
            }
            int liftA = liftOf(a);
            int liftB = liftOf(b);
            int power = powerOf(a) - liftA + powerOf(b) - liftB;
            return sign | product(digitsOf(a) << liftA, digitsOf(b) << liftB, power);
        }

        /** Multiplies digits of full width by halves, since 106 bits don't fit a long. */
        private static long product(long a, long b, int power) {
            long lowest = (a & HALF_MASK) * (b & HALF_MASK);
            long middle = (a >>> HALF) * (b & HALF_MASK) + (a & HALF_MASK) * (b >>> HALF)
                + (lowest >>> HALF);
            long high = (a >>> HALF) * (b >>> HALF) + (middle >>> HALF);
            long low = (middle & HALF_MASK) << HALF | lowest & HALF_MASK;
            int lowShift = 2 * HALF - 8;
            long gone = low & (1L << lowShift) - 1;
            long digits = high << 8 | low >>> lowShift | (gone == 0 ? 0 : 1);
            return rounded(digits, power + lowShift, false);
        }

        /** How far the digits must go up until they have their full width. */
        private static int liftOf(long x) {
            return Math.max(Long.numberOfLeadingZeros(digitsOf(x)) - (64 - WIDTH), 0);
        }

        static long divide(long a, long b) {
            if (isNan(a) || isNan(b)) {
                return NAN;
            }
            long sign = (a ^ b) & SIGN;
            if (isInfinite(a) || isZero(b)) {
                boolean lost = isInfinite(a) ? isInfinite(b) : isZero(a);
                return lost ? NAN : sign | INFINITE;
            }
            if (isInfinite(b) || isZero(a)) {
                return sign;
            }
            int liftA = liftOf(a);
            int liftB = liftOf(b);
            int power = powerOf(a) - liftA - powerOf(b) + liftB;
            return sign | quotient(digitsOf(a) << liftA, digitsOf(b) << liftB, power);
        }

        private static long quotient(long a, long b, int power) {
            long left = a;
            long digits = 0;
            for (int i = 0; i < QUOTIENT_BITS; i++) {
                digits <<= 1;
                if (left >= b) {
                    left -= b;
                    digits |= 1;
                }
                left <<= 1;
            }
            if (left != 0) {
                digits |= 1;
            }
            return rounded(digits, power - (QUOTIENT_BITS - 1), false);
        }

        /** What Java's % answers: exact, with the sign of the first. */
        static long remainder(long a, long b) {
            if (isNan(a) || isNan(b) || isInfinite(a) || isZero(b)) {
                return NAN;
            }
            int steps = powerOf(a) - powerOf(b);
            if (isInfinite(b) || isZero(a) || steps < 0) {
                return a;
            }
            long divisor = digitsOf(b);
            if (divisor == 0) {
                return NAN;
            }
            long left = digitsOf(a) % divisor;
            for (int i = 0; i < steps && i < MOST_REMAINDER_TURNS; i++) {
                left <<= 1;
                if (left >= divisor) {
                    left -= divisor;
                }
            }
            return a & SIGN | rounded(left, powerOf(b), false);
        }
    }
}
