import java.util.Random;

/** Random runs of calls, each answer compared with the one of Model. */
public final class MatchTest {
    private static final String[] KINDS = {"u8", "s8", "u16", "s16", "u32", "s32", "s64", "f32", "f64"};
    private static final String[] NAMES = {"a", "b", "c", "d", "e", "f", "g", "h", "ab", "k9", "longer", "xx"};
    private static final String[] PIECES = {"(", ")", "[", "]", ";", "=", "<", ">", "~", "+", "-", "*",
        "/", "%", ".", ",", ":", "{", "}", "if", "fail", "big", "at", "x", "by", "ro", "ones", "reads",
        "u8", "f64", "toolong", "0", "1", "64", "65", "999", "1000", "1234567890", "\n", "\t", "A", "a",
        "b", "zz", "\u00e9", "\u0000"};
    private static final long[] WHOLES = {0, 1, -1, 2, 3, 7, 127, 128, 255, 256, -128, -129, 32767, 65535,
        1L << 31, (1L << 32) - 1, 1L << 53, (1L << 53) + 1, Long.MAX_VALUE, Long.MIN_VALUE};
    private static final double[] FLOATS = {0.0, -0.0, 1, -1, 0.5, 1.5, 2.5, -7.25, 255.9, 1e9, 1e18, 1e19,
        -1e19, 1e38, 1e39, 1e-38, 1e-45, 1e300, 1e-300, 4.9e-324, Double.MAX_VALUE, Double.NaN,
        Double.POSITIVE_INFINITY, Double.NEGATIVE_INFINITY, 3.4028235677973366e38, 0.1};

    // What an object answers behind so many calls is free.
    private static final int MOST_CALLS = 512;
    private static final int LATEST_ACT = 440;

    private final Random random;
    private final ByteViews real = new ByteViews();
    private final Model model = new Model();
    private final StringBuilder log = new StringBuilder();
    private int calls = 0;
    private boolean good = true;
    private boolean neat = true;

    private MatchTest(long seed) {
        random = new Random(seed);
    }

    public static void main(String[] args) {
        int runs = args.length > 0 ? Integer.parseInt(args[0]) : 3000;
        int[] faults = new int[6];
        int[] troubles = new int[5];
        for (int seed = 0; seed < runs && Feeder.wrong() < 5; seed++) {
            MatchTest run = new MatchTest(seed);
            run.go(faults, troubles);
            if (!run.good) {
                System.out.println("seed " + seed + ":\n" + run.log);
            }
        }
        // A generator that no longer meets some fault or trouble would test nothing of it.
        for (int i = 0; i < 6; i++) {
            Feeder.due("fault " + i + " was met", faults[i] > 0, true);
        }
        for (int i = 1; i < 5; i++) {
            Feeder.due("trouble " + i + " was met", troubles[i] > 0, true);
        }
        Feeder.finish();
    }

    private void go(int[] faults, int[] troubles) {
        if (random.nextInt(3) > 0) {
            int n = random.nextInt(4) == 0 ? random.nextInt(260) - 1 : 16 + random.nextInt(100);
            same("memory(" + n + ")", real.memory(n), model.memory(n));
        }
        for (int tries = random.nextInt(20); tries < 20 && model.look(1) == 0 && good; tries++) {
            tell(viewsText());
            faults[model.fault(0)]++;
        }
        while (calls < LATEST_ACT && good) {
            act(faults, troubles);
            for (int i = random.nextInt(4); i > 0 && good; i--) {
                observe();
            }
        }
        int bytes = model.look(0);
        int start = random.nextInt(bytes);
        for (int k = 0; k < bytes && calls < MOST_CALLS && good; k++) {
            int offset = (start + k) % bytes;
            same("at(" + offset + ")", real.at(offset), model.at(offset));
        }
    }

    private void same(String call, long got, long want) {
        calls++;
        log.append("  ").append(call).append(" = ").append(want).append('\n');
        if (got != want) {
            good = false;
            Feeder.due(call, got, want);
        }
    }

    private void same(String call, boolean got, boolean want) {
        same(call, got ? 1 : 0, want ? 1 : 0);
    }

    private void put(String text) {
        log.append("  tape <").append(text).append(">\n");
        for (int[] c : Feeder.calls(text)) {
            same("feed", real.feed(c[0], c[1], c[2], c[3], c[4]),
                model.feed(c[0], c[1], c[2], c[3], c[4]));
        }
        int n = random.nextInt(30) == 0 ? random.nextInt(510) - 5 : text.length();
        same("end(" + n + ")", real.end(n), model.end(n));
    }

    private void tell(String text) {
        put(text);
        same("views()", real.views(), model.views());
        same("fault(0)", real.fault(0), model.fault(0));
        same("fault(1)", real.fault(1), model.fault(1));
    }

    private int v() {
        return random.nextInt(25) == 0 ? random.nextInt(40) - 10
            : random.nextInt(Math.max(model.look(1), 1));
    }

    private int element(int v) {
        return random.nextInt(20) == 0 ? random.nextInt(80) - 8
            : random.nextInt(Math.max(model.view(v, 3), 1));
    }

    private long whole() {
        return random.nextInt(3) == 0 ? random.nextLong() >> random.nextInt(64)
            : WHOLES[random.nextInt(WHOLES.length)];
    }

    private long floatBits() {
        int way = random.nextInt(4);
        return way == 0 ? random.nextLong()
            : way == 1 ? Double.doubleToRawLongBits((double) random.nextInt(2000) / 16 - 60)
            : Double.doubleToRawLongBits(FLOATS[random.nextInt(FLOATS.length)]);
    }

    private void act(int[] faults, int[] troubles) {
        int v = v();
        int i = element(v);
        int w = v();
        long x = whole();
        long bits = floatBits();
        int o = random.nextInt(Math.max(model.look(0), 1) + 2) - 1;
        int n = random.nextInt(20) == 0 ? random.nextInt(100) - 10 : random.nextInt(8);
        switch (random.nextInt(18)) {
            case 0:
                same("read(" + v + ", " + i + ")", real.read(v, i), model.read(v, i));
                break;
            case 1:
                same("write(" + v + ", " + i + ", " + x + ")", real.write(v, i, x), model.write(v, i, x));
                break;
            case 2:
            case 3:
                same("writeFloat(" + v + ", " + i + ", " + bits + ")", real.writeFloat(v, i, bits),
                    model.writeFloat(v, i, bits));
                break;
            case 4:
                same("poke(" + o + ", " + (int) x + ")", real.poke(o, (int) x), model.poke(o, (int) x));
                break;
            case 5:
                same("copy(" + v + ", " + w + ")", real.copy(v, w), model.copy(v, w));
                break;
            case 6:
                same("turn(" + v + ")", real.turn(v), model.turn(v));
                break;
            case 7:
                same("sort(" + v + ")", real.sort(v), model.sort(v));
                break;
            case 8:
                if (random.nextInt(4) == 0) {
                    same("fill(" + v + ", " + x + ")", real.fill(v, x), model.fill(v, x));
                }
                break;
            case 9:
                same("roll(" + v + ", " + n + ")", real.roll(v, n), model.roll(v, n));
                break;
            case 10:
                same("undo()", real.undo(), model.undo());
                break;
            case 11:
                if (random.nextInt(6) == 0) {
                    tell(viewsText());
                    faults[model.fault(0)]++;
                } else {
                    name();
                }
                break;
            case 12:
                if (random.nextInt(30) == 0) {
                    int size = random.nextInt(280) - 10;
                    same("memory(" + size + ")", real.memory(size), model.memory(size));
                }
                break;
            default:
                doScript();
                faults[model.fault(0)]++;
                if (model.trouble(0) > 0) {
                    troubles[model.trouble(0)]++;
                }
                break;
        }
    }

    private void name() {
        put((random.nextBoolean() ? " \n" : "") + NAMES[random.nextInt(NAMES.length)]
            + (random.nextInt(3) == 0 ? " " : "") + (random.nextInt(6) == 0 ? "b" : ""));
        same("named()", real.named(), model.named());
    }

    private void doScript() {
        put(scriptText());
        same("script()", real.script(), model.script());
        same("fault(0)", real.fault(0), model.fault(0));
        same("fault(1)", real.fault(1), model.fault(1));
        same("trouble(-1)", real.trouble(-1), model.trouble(-1));
        for (int i = -2; i < Math.min(model.trouble(-1), 22) + 1; i++) {
            same("trouble(" + i + ")", real.trouble(i), model.trouble(i));
        }
    }

    private void observe() {
        int v = v();
        int w = v();
        int i = element(v);
        int k = random.nextInt(6) - 2;
        int o = random.nextInt(Math.max(model.look(0), 1) + 2) - 1;
        long x = random.nextInt(3) == 0 ? whole() : random.nextInt(4) - 1;
        switch (random.nextInt(15)) {
            case 0:
                same("peek(" + v + ", " + i + ")", real.peek(v, i), model.peek(v, i));
                break;
            case 1:
                same("field(" + v + ", " + i + ", " + k + ")", real.field(v, i, k), model.field(v, i, k));
                break;
            case 2:
                same("at(" + o + ")", real.at(o), model.at(o));
                break;
            case 3:
                same("changed(" + k + ")", real.changed(k), model.changed(k));
                break;
            case 4:
                same("seen(" + v + ", " + k + ")", real.seen(v, k), model.seen(v, k));
                break;
            case 5:
                same("over(" + v + ", " + w + ")", real.over(v, w), model.over(v, w));
                break;
            case 6:
                same("here(" + o + ")", real.here(o), model.here(o));
                break;
            case 7:
                same("show(" + v + ")", real.show(v), model.show(v));
                break;
            case 8:
                int place = random.nextInt(60) - 3;
                same("out(" + place + ")", real.out(place), model.out(place));
                break;
            case 9:
                int from = random.nextBoolean() ? 0 : i;
                same("find(" + v + ", " + from + ", " + x + ")", real.find(v, from, x), model.find(v, from, x));
                break;
            case 10:
                same("sum(" + v + ")", real.sum(v), model.sum(v));
                break;
            case 11:
                same("rest(" + v + ", " + i + ", " + x + ")", real.rest(v, i, x), model.rest(v, i, x));
                break;
            case 12:
                int what = random.nextInt(9) - 1;
                same("view(" + v + ", " + what + ")", real.view(v, what), model.view(v, what));
                break;
            default:
                int which = random.nextInt(9) - 1;
                same("look(" + which + ")", real.look(which), model.look(which));
                break;
        }
    }

    // ---- texts

    private String pick(String... all) {
        return all[random.nextInt(all.length)];
    }

    private String blank() {
        return random.nextInt(8) == 0 ? pick("", "  ", "\n") : " ";
    }

    private String tight() {
        return random.nextInt(8) == 0 ? pick(" ", "\n") : "";
    }

    /** Something odd, now and then; never in a text that is to be neat. */
    private boolean odd(int oneIn) {
        return random.nextInt(oneIn) == 0 && !neat;
    }

    /** A text that isn't neat is often spoilt in one place. */
    private String spoilt(String text) {
        if (odd(2) && !text.isEmpty()) {
            int p = random.nextInt(text.length());
            int q = Math.min(text.length(), p + random.nextInt(3));
            text = text.substring(0, p) + pick(PIECES) + text.substring(q);
        }
        return text.length() > 500 ? text.substring(0, 500) : text;
    }

    private String viewsText() {
        StringBuilder s = new StringBuilder();
        neat = random.nextInt(3) > 0;
        int many = odd(20) ? 20 : 1 + random.nextInt(9);
        for (int n = 0; n < many; n++) {
            String name = odd(25) ? pick(NAMES) : n < NAMES.length ? NAMES[n] : "n" + n;
            s.append(many > 16 ? name + " u8 at 0;" : viewText(name));
        }
        return spoilt(s.toString());
    }

    private String viewText(String name) {
        int size = model.look(0);
        int kind = random.nextInt(9);
        int bytes = new int[] {1, 1, 2, 2, 4, 4, 8, 4, 8}[kind];
        int at = odd(12) ? random.nextInt(300) : random.nextInt(Math.max(size - bytes, 0) + 1);
        StringBuilder s = new StringBuilder(name + blank() + KINDS[kind]);
        s.append(random.nextInt(3) == 0 ? blank() + "big" : "").append(blank() + "at" + blank() + at);
        if (random.nextInt(3) > 0) {
            boolean by = random.nextInt(3) == 0;
            int stride = by ? odd(30) ? random.nextInt(70) : 1 + random.nextInt(12) : bytes;
            int most = Math.max(1, (size - at - bytes) / Math.max(stride, 1) + 1);
            int many = odd(12) ? random.nextInt(70) : 1 + random.nextInt(Math.min(most, 64));
            s.append(blank() + "x" + blank() + many + (by ? blank() + "by" + blank() + stride : ""));
        }
        s.append(random.nextInt(2) == 0 ? blank() + pick("ro", "ones", "reads") : "");
        if (kind < 7 ? random.nextInt(3) == 0 : odd(20)) {
            s.append(tight() + "{");
            int fields = odd(12) ? 9 : 1 + random.nextInt(3);
            for (int f = 0; f < fields; f++) {
                int low = random.nextInt(8 * bytes);
                int high = low + random.nextInt(8 * bytes - low);
                high = odd(20) || high - low > 62 ? random.nextInt(70) : high;
                low = odd(20) ? random.nextInt(70) : low;
                String field = odd(20) ? pick(NAMES) : NAMES[f % 10];
                s.append((f > 0 ? "," : "") + tight() + field + tight() + ":" + tight() + low + "-" + high);
            }
            s.append("}");
        }
        return s.append(tight() + ";" + tight()).toString();
    }

    private String scriptText() {
        StringBuilder s = new StringBuilder();
        neat = random.nextInt(3) > 0;
        if (random.nextInt(40) == 0) {
            return "(fail;)".repeat(random.nextInt(50));
        }
        if (random.nextInt(40) == 0) {
            int n = random.nextInt(160);
            return "a[".repeat(n) + "0" + "]".repeat(n) + "=" + "-".repeat(random.nextInt(9)) + "1;";
        }
        if (random.nextInt(40) == 0) {
            int n = random.nextInt(7);
            int m = random.nextInt(7);
            return "(".repeat(n) + place(1) + "=" + "(".repeat(m) + expr(1) + ")".repeat(m) + ";"
                + ")".repeat(n);
        }
        for (int n = random.nextInt(6); n >= 0 && s.length() < 350; n--) {
            s.append(statement(random.nextInt(4)));
        }
        return spoilt(s.toString());
    }

    private String statement(int depth) {
        int way = random.nextInt(10);
        if (depth > 0 && way == 0 || way == 1 && random.nextInt(3) == 0) {
            return "if" + blank() + expr(random.nextInt(3)) + blank() + statement(depth - 1);
        }
        if (depth > 0 && way < 5) {
            StringBuilder s = new StringBuilder("(");
            for (int n = random.nextInt(4); n > 0; n--) {
                s.append(statement(depth - 1));
            }
            return s + tight() + ")" + tight();
        }
        if (way == 9 && random.nextInt(3) == 0) {
            return "fail" + tight() + ";";
        }
        return place(1) + tight() + "=" + tight() + expr(random.nextInt(4)) + tight() + ";" + tight();
    }

    private String place(int depth) {
        if (odd(40) || model.views.isEmpty()) {
            return pick(NAMES);
        }
        Model.View w = model.views.get(random.nextInt(model.views.size()));
        String s = w.name;
        if (w.many > 1 && random.nextInt(4) > 0 || random.nextInt(20) == 0) {
            boolean plain = random.nextInt(4) > 0;
            s += tight() + "[" + (plain ? "" + random.nextInt(w.many + (random.nextInt(5) == 0 ? 2 : 0))
                : expr(depth - 1)) + "]";
        }
        if (!w.fields.isEmpty() && random.nextInt(2) == 0) {
            s += tight() + "." + w.fields.get(random.nextInt(w.fields.size())).name;
        }
        return s;
    }

    private String expr(int depth) {
        int way = random.nextInt(9);
        if (depth <= 0 || way == 0) {
            return random.nextInt(2) == 0 ? number() : place(depth);
        }
        if (way == 1) {
            return "-" + expr(depth - 1);
        }
        if (way == 2) {
            return "(" + expr(depth - 1) + ")";
        }
        return expr(depth - 1) + tight() + pick("+", "-", "*", "/", "%", "+", "*", "<", ">", "~")
            + tight() + expr(depth - 1);
    }

    private String number() {
        String whole = random.nextInt(5) == 0 ? "" + random.nextInt(1000000000) : "" + random.nextInt(5);
        return random.nextInt(3) == 0 ? whole + tight() + "." + pick("0", "5", "25", "125", "100000000", "1")
            : whole;
    }
}
