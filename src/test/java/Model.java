import java.util.ArrayList;
import java.util.Arrays;
import java.util.List;

/**
 * The document a second time, as plainly as the Java library allows and by other ways than the
 * class: texts are read by methods that call one another, scripts are done as they are read
 * again, numbers are Java's own doubles. Tests compare the class with it.
 */
final class Model {
    private static final List<String> KINDS =
        Arrays.asList("u8", "s8", "u16", "s16", "u32", "s32", "s64", "f32", "f64");
    private static final int[] BYTES = {1, 1, 2, 2, 4, 4, 8, 4, 8};
    private static final List<String> ACCESS = Arrays.asList("", "ro", "ones", "reads");
    private static final List<String> OTHERS =
        Arrays.asList("big", "at", "x", "by", "ro", "ones", "reads", "if", "fail");

    static final class Fault extends RuntimeException {
        private static final long serialVersionUID = 1L;
        final int number;
        final int place;

        Fault(int number, int place) {
            this.number = number;
            this.place = place;
        }
    }

    static final class Trouble extends RuntimeException {
        private static final long serialVersionUID = 1L;
        final int number;

        Trouble(int number) {
            this.number = number;
        }
    }

    static final class Field {
        String name;
        int low;
        int high;
    }

    static final class View {
        String name;
        int kind;
        boolean big;
        int at;
        int many = 1;
        int by;
        int access;
        List<Field> fields = new ArrayList<>();

        int bytes() {
            return BYTES[kind];
        }

        boolean floats() {
            return kind >= 7;
        }

        boolean has(int i) {
            return i >= 0 && i < many;
        }
    }

    int[] memory = new int[64];
    int[] ahead = new int[64];
    List<View> views = new ArrayList<>();
    List<int[]> history = new ArrayList<>();
    String tape = "";
    String shown = "";
    int fault = 0;
    int faultPlace = -1;
    List<Integer> troubles = new ArrayList<>();

    // ---- the face

    boolean memory(int n) {
        if (n < 1 || n > 256) {
            return false;
        }
        memory = new int[n];
        ahead = new int[n];
        views.clear();
        history.clear();
        return true;
    }

    int feed(int a, int b, int c, int d, int e) {
        if (tape.length() > 480) {
            return -1;
        }
        for (int x : new int[] {a, b, c, d, e}) {
            for (int s = 24; s >= 0; s -= 8) {
                tape += (char) (x >> s & 255);
            }
        }
        return tape.length();
    }

    boolean end(int n) {
        if (n < 0 || n > tape.length()) {
            return false;
        }
        tape = tape.substring(0, n);
        return true;
    }

    int views() {
        String text = tape;
        tape = "";
        fault = 0;
        faultPlace = -1;
        try {
            views = new Reader(text, 3, memory.length).views();
            return views.size();
        } catch (Fault f) {
            fault = f.number;
            faultPlace = f.place;
            return -1;
        }
    }

    int script() {
        String text = tape;
        tape = "";
        fault = 0;
        faultPlace = -1;
        try {
            Reader reader = new Reader(text, 9, memory.length);
            reader.dry = true;
            reader.statements();
        } catch (Fault f) {
            fault = f.number;
            faultPlace = f.place;
            return -1;
        }
        ahead = memory.clone();
        troubles.clear();
        Reader reader = new Reader(text, 9, memory.length);
        int done = reader.doAll();
        keep();
        return done;
    }

    int fault(int what) {
        return what == 0 ? fault : what == 1 ? faultPlace : -1;
    }

    int trouble(int i) {
        if (i == -1) {
            return troubles.size();
        }
        return i < 0 || i >= troubles.size() || i >= 20 ? -1 : troubles.get(i);
    }

    int view(int v, int what) {
        if (v < 0 || v >= views.size() || what < 0 || what > 6) {
            return -1;
        }
        View w = views.get(v);
        return new int[] {w.kind, w.big ? 1 : 0, w.at, w.many, w.by, w.access, w.fields.size()}[what];
    }

    int named() {
        String name = tape.replace('\n', ' ');
        tape = "";
        while (name.startsWith(" ")) {
            name = name.substring(1);
        }
        while (name.endsWith(" ")) {
            name = name.substring(0, name.length() - 1);
        }
        return numberOf(name);
    }

    long read(int v, int i) {
        if (!has(v, i)) {
            return Long.MIN_VALUE + 7;
        }
        ahead = memory.clone();
        long answer = peek(v, i);
        if (views.get(v).access == 3) {
            lay(views.get(v), i, 0);
        }
        keep();
        return answer;
    }

    long peek(int v, int i) {
        if (!has(v, i)) {
            return Long.MIN_VALUE + 7;
        }
        View w = views.get(v);
        Object value = value(w, i);
        if (w.kind == 7) {
            return Float.floatToIntBits((float) (double) (Double) value);
        }
        return value instanceof Double ? Double.doubleToLongBits((Double) value) : (Long) value;
    }

    long field(int v, int i, int f) {
        if (!has(v, i) || f < 0 || f >= views.get(v).fields.size()) {
            return -1;
        }
        return field(views.get(v), i, f);
    }

    boolean write(int v, int i, long x) {
        return put(v, i, (Long) x);
    }

    boolean writeFloat(int v, int i, long bits) {
        return put(v, i, (Double) Double.longBitsToDouble(bits));
    }

    private boolean put(int v, int i, Object x) {
        if (!has(v, i) || views.get(v).access == 1) {
            return false;
        }
        ahead = memory.clone();
        write(views.get(v), i, x);
        keep();
        return true;
    }

    int at(int offset) {
        return offset >= 0 && offset < memory.length ? memory[offset] : -1;
    }

    boolean poke(int offset, int v) {
        if (offset < 0 || offset >= memory.length) {
            return false;
        }
        ahead = memory.clone();
        memory[offset] = v & 255;
        keep();
        return true;
    }

    int changed(int i) {
        List<Integer> offsets = new ArrayList<>();
        for (int k = 0; k < memory.length; k++) {
            if (memory[k] != ahead[k]) {
                offsets.add(k);
            }
        }
        return ith(offsets, i);
    }

    int seen(int v, int i) {
        if (v < 0 || v >= views.size()) {
            return -1;
        }
        List<Integer> elements = new ArrayList<>();
        View w = views.get(v);
        for (int e = 0; e < w.many; e++) {
            boolean any = false;
            for (int k = 0; k < w.bytes(); k++) {
                int o = w.at + e * w.by + k;
                any |= memory[o] != ahead[o];
            }
            if (any) {
                elements.add(e);
            }
        }
        return ith(elements, i);
    }

    private static int ith(List<Integer> all, int i) {
        return i == -1 ? all.size() : i >= 0 && i < all.size() ? all.get(i) : -1;
    }

    private boolean[] cover(View w) {
        boolean[] cover = new boolean[memory.length];
        for (int e = 0; e < w.many; e++) {
            for (int k = 0; k < w.bytes(); k++) {
                cover[w.at + e * w.by + k] = true;
            }
        }
        return cover;
    }

    int over(int v, int w) {
        if (v < 0 || w < 0 || v >= views.size() || w >= views.size()) {
            return -1;
        }
        boolean[] a = cover(views.get(v));
        boolean[] b = cover(views.get(w));
        int n = 0;
        for (int k = 0; k < a.length; k++) {
            n += a[k] && b[k] ? 1 : 0;
        }
        return n;
    }

    int here(int offset) {
        if (offset < 0 || offset >= memory.length) {
            return -1;
        }
        int bits = 0;
        for (int v = 0; v < views.size(); v++) {
            bits |= cover(views.get(v))[offset] ? 1 << v : 0;
        }
        return bits;
    }

    int copy(int from, int to) {
        if (from < 0 || to < 0 || from >= views.size() || to >= views.size()
            || views.get(to).access == 1) {
            return -1;
        }
        ahead = memory.clone();
        int n = Math.min(views.get(from).many, views.get(to).many);
        for (int i = 0; i < n; i++) {
            write(views.get(to), i, value(views.get(from), i));
        }
        keep();
        return n;
    }

    boolean turn(int v) {
        if (v < 0 || v >= views.size() || views.get(v).access == 1) {
            return false;
        }
        ahead = memory.clone();
        View w = views.get(v);
        long[] all = allBits(w);
        w.big = !w.big;
        for (int i = 0; i < w.many; i++) {
            lay(w, i, all[i]);
        }
        keep();
        return true;
    }

    boolean sort(int v) {
        if (v < 0 || v >= views.size() || views.get(v).access != 0
            || views.get(v).by < views.get(v).bytes()) {
            return false;
        }
        ahead = memory.clone();
        View w = views.get(v);
        List<Object> values = new ArrayList<>();
        for (int i = 0; i < w.many; i++) {
            values.add(value(w, i));
        }
        values.sort((a, b) -> a instanceof Double ? Double.compare((Double) a, (Double) b)
            : Long.compare((Long) a, (Long) b));
        for (int i = 0; i < w.many; i++) {
            write(w, i, values.get(i));
        }
        keep();
        return true;
    }

    int fill(int v, long x) {
        if (v < 0 || v >= views.size() || views.get(v).access == 1) {
            return -1;
        }
        ahead = memory.clone();
        for (int i = 0; i < views.get(v).many; i++) {
            write(views.get(v), i, (Long) x);
        }
        keep();
        return views.get(v).many;
    }

    boolean roll(int v, int n) {
        if (v < 0 || v >= views.size() || views.get(v).access == 1 || n < 0 || n > 64) {
            return false;
        }
        ahead = memory.clone();
        View w = views.get(v);
        long[] all = allBits(w);
        for (int i = 0; i < w.many; i++) {
            lay(w, i, all[(i + n) % w.many]);
        }
        keep();
        return true;
    }

    int show(int v) {
        if (v < 0 || v >= views.size()) {
            return -1;
        }
        View w = views.get(v);
        String s = w.name + " " + KINDS.get(w.kind) + (w.big ? " big" : "") + " at " + w.at;
        boolean by = w.by != w.bytes();
        s += w.many > 1 || by ? " x " + w.many : "";
        s += by ? " by " + w.by : "";
        s += w.access > 0 ? " " + ACCESS.get(w.access) : "";
        String fields = "";
        for (Field f : w.fields) {
            fields += (fields.isEmpty() ? "" : ",") + f.name + ":" + f.low + "-" + f.high;
        }
        shown = s + (fields.isEmpty() ? "" : "{" + fields + "}");
        return shown.length();
    }

    int out(int i) {
        return i >= 0 && i < shown.length() ? shown.charAt(i) : -1;
    }

    int find(int v, int i, long x) {
        if (v < 0 || v >= views.size() || i < 0 || i > views.get(v).many) {
            return -1;
        }
        View w = views.get(v);
        for (int e = i; e < w.many; e++) {
            Object value = value(w, e);
            if (value instanceof Double ? (Double) value == (double) x : (Long) value == x) {
                return e;
            }
        }
        return -1;
    }

    long sum(int v) {
        if (v < 0 || v >= views.size()) {
            return -1;
        }
        View w = views.get(v);
        long whole = 0;
        double floats = 0;
        for (int i = 0; i < w.many; i++) {
            Object value = value(w, i);
            if (value instanceof Double) {
                floats += (Double) value;
            } else {
                whole += (Long) value;
            }
        }
        return w.floats() ? Double.doubleToLongBits(floats) : whole;
    }

    long rest(int v, int i, long x) {
        if (!has(v, i) || !views.get(v).floats()) {
            return -1;
        }
        return Double.doubleToLongBits((Double) value(views.get(v), i) % (double) x);
    }

    boolean undo() {
        if (history.isEmpty()) {
            return false;
        }
        ahead = memory.clone();
        memory = history.remove(history.size() - 1);
        return true;
    }

    int look(int what) {
        int set = 0;
        int bare = 0;
        int total = 0;
        for (int k = 0; k < memory.length; k++) {
            set += memory[k] != 0 ? 1 : 0;
            bare += here(k) == 0 ? 1 : 0;
            total += memory[k];
        }
        int[] all = {memory.length, views.size(), set, history.size(), tape.length(), bare, total};
        return what >= 0 && what < all.length ? all[what] : -1;
    }

    // ---- elements

    private boolean has(int v, int i) {
        return v >= 0 && v < views.size() && views.get(v).has(i);
    }

    int numberOf(String name) {
        for (int v = 0; v < views.size(); v++) {
            if (views.get(v).name.equals(name)) {
                return v;
            }
        }
        return -1;
    }

    private void keep() {
        if (!Arrays.equals(ahead, memory)) {
            history.add(ahead.clone());
            if (history.size() > 8) {
                history.remove(0);
            }
        }
    }

    private long bits(View w, int i) {
        long bits = 0;
        for (int k = 0; k < w.bytes(); k++) {
            int weight = w.big ? w.bytes() - 1 - k : k;
            bits |= (long) memory[w.at + i * w.by + k] << 8 * weight;
        }
        return bits;
    }

    private long[] allBits(View w) {
        long[] all = new long[w.many];
        for (int i = 0; i < w.many; i++) {
            all[i] = bits(w, i);
        }
        return all;
    }

    private void lay(View w, int i, long bits) {
        for (int k = 0; k < w.bytes(); k++) {
            int weight = w.big ? w.bytes() - 1 - k : k;
            memory[w.at + i * w.by + k] = (int) (bits >>> 8 * weight & 255);
        }
    }

    private Object value(View w, int i) {
        long bits = bits(w, i);
        switch (w.kind) {
            case 1:
                return (long) (byte) bits;
            case 3:
                return (long) (short) bits;
            case 5:
                return (long) (int) bits;
            case 7:
                return (double) Float.intBitsToFloat((int) bits);
            case 8:
                return Double.longBitsToDouble(bits);
            default:
                return bits;
        }
    }

    private long field(View w, int i, int f) {
        long bits = 0;
        Field field = w.fields.get(f);
        for (int b = field.high; b >= field.low; b--) {
            bits = bits * 2 + (bits(w, i) >>> b & 1);
        }
        return bits;
    }

    private void write(View w, int i, Object x) {
        long bits;
        if (w.kind == 7) {
            float value = x instanceof Double ? (float) (double) (Double) x : (float) (long) (Long) x;
            bits = Float.floatToIntBits(value) & 0xffffffffL;
        } else if (w.kind == 8) {
            double value = x instanceof Double ? (Double) x : (double) (long) (Long) x;
            bits = Double.doubleToLongBits(value);
        } else {
            bits = x instanceof Double ? (long) (double) (Double) x : (Long) x;
        }
        lay(w, i, w.access == 2 ? bits(w, i) & ~bits : bits);
    }

    private void writeField(View w, int i, int f, Object x) {
        long value = x instanceof Double ? (long) (double) (Double) x : (Long) x;
        long bits = bits(w, i);
        Field field = w.fields.get(f);
        for (int b = field.low; b <= field.high; b++) {
            bits = bits & ~(1L << b) | (value >>> b - field.low & 1) << b;
        }
        write(w, i, (Long) bits);
    }

    // ---- texts

    /** Reads a text sign by sign; with dry it looks for faults alone, else it does the script. */
    private final class Reader {
        private final String text;
        private final int digits;
        private final int size;
        private int pos;
        private int open;
        private int done;
        boolean dry;

        Reader(String text, int digits, int size) {
            this.text = text;
            this.digits = digits;
            this.size = size;
        }

        private void blanks() {
            while (pos < text.length() && (text.charAt(pos) == ' ' || text.charAt(pos) == '\n')) {
                pos++;
            }
        }

        private char ahead() {
            blanks();
            return pos < text.length() ? text.charAt(pos) : 0x1000;
        }

        private boolean letter(char c) {
            return c >= 'a' && c <= 'z';
        }

        private boolean digit(char c) {
            return c >= '0' && c <= '9';
        }

        private String aheadWord() {
            String word = "";
            if (letter(ahead())) {
                int p = pos;
                while (p < text.length() && (letter(text.charAt(p)) || digit(text.charAt(p)))) {
                    word += text.charAt(p++);
                }
            }
            return word;
        }

        private boolean word(String wanted) {
            if (!aheadWord().equals(wanted)) {
                return false;
            }
            pos += wanted.length();
            return true;
        }

        private Fault wrong(int number) {
            blanks();
            return new Fault(number, pos);
        }

        private boolean sign(char c) {
            if (ahead() != c) {
                return false;
            }
            pos++;
            return true;
        }

        private void need(char c) {
            if (!sign(c)) {
                throw wrong(1);
            }
        }

        private String aheadName() {
            String name = aheadWord();
            if (name.isEmpty() || name.length() > 6 || KINDS.contains(name) || OTHERS.contains(name)) {
                throw wrong(1);
            }
            return name;
        }

        private String aheadNumber() {
            blanks();
            int p = pos;
            while (p < text.length() && digit(text.charAt(p))) {
                p++;
            }
            if (p == pos || p - pos > digits) {
                throw wrong(1);
            }
            return text.substring(pos, p);
        }

        List<View> views() {
            List<View> all = new ArrayList<>();
            while (ahead() != 0x1000) {
                String name = aheadName();
                for (View other : all) {
                    if (other.name.equals(name)) {
                        throw wrong(2);
                    }
                }
                if (all.size() == 16) {
                    throw wrong(4);
                }
                pos += name.length();
                View w = view();
                w.name = name;
                need(';');
                all.add(w);
            }
            return all;
        }

        private View view() {
            View w = new View();
            w.kind = KINDS.indexOf(aheadWord());
            if (w.kind < 0) {
                throw wrong(1);
            }
            pos += aheadWord().length();
            w.big = word("big");
            if (!word("at")) {
                throw wrong(1);
            }
            String number = aheadNumber();
            w.at = Integer.parseInt(number);
            if (w.at + w.bytes() > size) {
                throw wrong(3);
            }
            pos += number.length();
            w.by = w.bytes();
            if (word("x")) {
                row(w);
            }
            for (int a = 1; a <= 3 && w.access == 0; a++) {
                if (word(ACCESS.get(a))) {
                    w.access = a;
                }
            }
            if (ahead() == '{') {
                if (w.floats()) {
                    throw wrong(4);
                }
                fields(w);
            }
            return w;
        }

        private void row(View w) {
            String number = aheadNumber();
            w.many = Integer.parseInt(number);
            if (w.many < 1 || w.many > 64) {
                throw wrong(3);
            }
            int place = pos;
            pos += number.length();
            if (word("by")) {
                number = aheadNumber();
                w.by = Integer.parseInt(number);
                if (w.by < 1 || w.by > 64) {
                    throw wrong(3);
                }
                place = pos;
                pos += number.length();
            }
            if (w.at + (w.many - 1) * w.by + w.bytes() > size) {
                throw new Fault(3, place);
            }
        }

        private void fields(View w) {
            need('{');
            do {
                Field f = new Field();
                f.name = aheadName();
                for (Field other : w.fields) {
                    if (other.name.equals(f.name)) {
                        throw wrong(2);
                    }
                }
                if (w.fields.size() == 8) {
                    throw wrong(4);
                }
                pos += f.name.length();
                need(':');
                String number = aheadNumber();
                f.low = Integer.parseInt(number);
                int bits = 8 * w.bytes();
                if (f.low >= bits) {
                    throw wrong(3);
                }
                pos += number.length();
                need('-');
                number = aheadNumber();
                f.high = Integer.parseInt(number);
                if (f.high >= bits || f.high < f.low || f.high - f.low + 1 > 63) {
                    throw wrong(3);
                }
                pos += number.length();
                w.fields.add(f);
            } while (sign(','));
            need('}');
        }

        void statements() {
            while (ahead() != 0x1000) {
                statement();
            }
        }

        int doAll() {
            while (ahead() != 0x1000) {
                int[] before = memory.clone();
                int doneBefore = done;
                try {
                    statement();
                } catch (Trouble t) {
                    troubles.add(t.number);
                    memory = before;
                    done = doneBefore;
                    return done;
                }
            }
            return done;
        }

        private void statement() {
            if (word("if")) {
                Object condition = expr();
                boolean yes = dry || (condition instanceof Double ? (Double) condition != 0
                    : (Long) condition != 0);
                if (yes) {
                    statement();
                } else {
                    skip();
                }
            } else if (word("fail")) {
                need(';');
                if (!dry) {
                    throw new Trouble(4);
                }
            } else if (ahead() == '(') {
                group();
            } else {
                assignment();
            }
        }

        /** Reads a statement without doing it. */
        private void skip() {
            dry = true;
            statement();
            dry = false;
        }

        private void opening() {
            if (open == 5) {
                throw wrong(5);
            }
            open++;
            need('(');
        }

        private void closing() {
            need(')');
            open--;
        }

        private void group() {
            int[] before = memory.clone();
            int doneBefore = done;
            int begin = pos;
            int openBefore = open;
            try {
                opening();
                while (ahead() != ')') {
                    statement();
                }
                closing();
            } catch (Trouble t) {
                troubles.add(t.number);
                memory = before;
                done = doneBefore;
                pos = begin;
                open = openBefore;
                dry = true;
                group();
                dry = false;
            }
        }

        private void assignment() {
            String name = aheadName();
            int v = numberOf(name);
            if (v < 0) {
                throw wrong(2);
            }
            pos += name.length();
            View w = views.get(v);
            int i = index(w);
            int f = field(w);
            need('=');
            Object value = expr();
            need(';');
            if (dry) {
                return;
            }
            if (w.access == 1) {
                throw new Trouble(3);
            }
            if (f < 0) {
                write(w, i, value);
            } else {
                writeField(w, i, f, value);
            }
            done++;
        }

        private int index(View w) {
            if (!sign('[')) {
                return 0;
            }
            Object index = expr();
            need(']');
            if (dry) {
                return 0;
            }
            long i = index instanceof Double ? (long) (double) (Double) index : (Long) index;
            if (i < 0 || i >= w.many) {
                throw new Trouble(1);
            }
            return (int) i;
        }

        private int field(View w) {
            if (!sign('.')) {
                return -1;
            }
            String name = aheadName();
            for (int f = 0; f < w.fields.size(); f++) {
                if (w.fields.get(f).name.equals(name)) {
                    pos += name.length();
                    return f;
                }
            }
            throw wrong(2);
        }

        private Object expr() {
            Object a = sum();
            char c = ahead();
            if (c == '<' || c == '>' || c == '~') {
                pos++;
                a = both(c, a, sum());
            }
            return a;
        }

        private Object sum() {
            Object a = term();
            for (char c = ahead(); c == '+' || c == '-'; c = ahead()) {
                pos++;
                a = both(c, a, term());
            }
            return a;
        }

        private Object term() {
            Object a = factor();
            for (char c = ahead(); c == '*' || c == '/' || c == '%'; c = ahead()) {
                pos++;
                a = both(c, a, factor());
            }
            return a;
        }

        private Object factor() {
            if (sign('-')) {
                Object a = factor();
                return a instanceof Double ? (Object) (-(Double) a) : (Object) (-(Long) a);
            }
            if (ahead() == '(') {
                opening();
                Object a = expr();
                closing();
                return a;
            }
            if (digit(ahead())) {
                return number();
            }
            String name = aheadName();
            int v = numberOf(name);
            if (v < 0) {
                throw wrong(2);
            }
            pos += name.length();
            View w = views.get(v);
            int i = index(w);
            int f = field(w);
            if (dry) {
                return 0L;
            }
            Object a = f < 0 ? value(w, i) : (Object) Model.this.field(w, i, f);
            if (w.access == 3) {
                lay(w, i, 0);
            }
            return a;
        }

        private Object number() {
            String first = aheadNumber();
            pos += first.length();
            if (!sign('.')) {
                return Long.parseLong(first);
            }
            String second = aheadNumber();
            pos += second.length();
            double power = 1;
            for (int i = 0; i < second.length(); i++) {
                power *= 10;
            }
            return (double) Long.parseLong(first) + (double) Long.parseLong(second) / power;
        }

        private Object both(char c, Object a, Object b) {
            if (dry) {
                return 0L;
            }
            if (a instanceof Long && b instanceof Long) {
                return wholes(c, (Long) a, (Long) b);
            }
            double x = a instanceof Double ? (Double) a : (double) (long) (Long) a;
            double y = b instanceof Double ? (Double) b : (double) (long) (Long) b;
            switch (c) {
                case '+':
                    return x + y;
                case '-':
                    return x - y;
                case '*':
                    return x * y;
                case '/':
                    return x / y;
                case '%':
                    return x % y;
                case '<':
                    return x < y ? 1L : 0L;
                case '>':
                    return x > y ? 1L : 0L;
                default:
                    return x == y ? 1L : 0L;
            }
        }

        private Object wholes(char c, long a, long b) {
            if ((c == '/' || c == '%') && b == 0) {
                throw new Trouble(2);
            }
            switch (c) {
                case '+':
                    return a + b;
                case '-':
                    return a - b;
                case '*':
                    return a * b;
                case '/':
                    return a / b;
                case '%':
                    return a % b;
                case '<':
                    return a < b ? 1L : 0L;
                case '>':
                    return a > b ? 1L : 0L;
                default:
                    return a == b ? 1L : 0L;
            }
        }
    }
}
