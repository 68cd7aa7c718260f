/**
 * The sentences of 'Terms' about values, access, scripts, troubles, changes and history: for each
 * that names an edge the last that holds, the first that doesn't, and what comes then.
 */
public final class ScriptEdgeTest {
    private static final long NAN = 0x7ff8000000000000L;
    private static final long MAX = Long.MAX_VALUE;
    private static final long MIN = Long.MIN_VALUE;
    private static final String[] KINDS = {"u8", "s8", "u16", "s16", "u32", "s32", "s64"};
    private static final int[] BITS = {8, 8, 16, 16, 32, 32, 64};

    // What expressions are made of: the largest and the least long, NaN, infinite ones, -0.0.
    private static final String PARTS = "r s64 at 0; d f64 at 8; max s64 at 16; min s64 at 24; nan f64 at 32; inf f64 at 40;"
        + "neg f64 at 48; zero f64 at 56; big1 s64 at 64; row u8 at 72 x 3; w u16 at 80 {lo:0-3,hi:4-15}; h f32 at 84;";

    private ScriptEdgeTest() {
    }

    public static void main(String[] args) {
        readAs();
        wholeIntoWhole();
        floatIntoWhole();
        intoFloats();
        fields();
        readOnly();
        ones();
        reads();
        statements();
        expressions();
        floatNumbers();
        numbersOfScripts();
        namesOfNothing();
        sixthOpen();
        fullTape();
        readAhead();
        fromTheLeft();
        wholes();
        doubles();
        comparisons();
        ifs();
        noElement();
        byZero();
        toReadOnly();
        fail();
        groupUndone();
        statementUndone();
        groupWithin();
        changes();
        refusedCalls();
        history();
        Feeder.finish();
    }

    private static void sentence(String words) {
        Feeder.sentence(words);
    }

    private static void due(String what, long got, long want) {
        Feeder.due(what, got, want);
    }

    private static void due(String what, boolean got, boolean want) {
        Feeder.due(what, got, want);
    }

    private static long bits(double x) {
        return Double.doubleToLongBits(x);
    }

    private static ByteViews parts() {
        ByteViews x = new ByteViews();
        x.memory(100);
        due("the parts", Feeder.views(x, PARTS), 12);
        x.write(2, 0, MAX);
        x.write(3, 0, MIN);
        x.writeFloat(4, 0, NAN);
        x.writeFloat(5, 0, bits(Double.POSITIVE_INFINITY));
        x.writeFloat(6, 0, bits(Double.NEGATIVE_INFINITY));
        x.writeFloat(7, 0, bits(-0.0));
        x.write(8, 0, (1L << 53) + 1);
        Feeder.pokes(x, 72, 10, 20, 30);
        x.write(10, 0, 0xabc5);
        x.writeFloat(11, 0, bits(7.5));
        return x;
    }

    /** What the expression gives, written into an s64. */
    private static void whole(String expression, long want) {
        ByteViews x = parts();
        due("script of " + expression, Feeder.script(x, "r = " + expression + ";"), 1);
        due(expression, x.peek(0, 0), want);
    }

    /** What the expression gives, written into an f64. */
    private static void floating(String expression, double want) {
        ByteViews x = parts();
        due("script of " + expression, Feeder.script(x, "d = " + expression + ";"), 1);
        due(expression, x.peek(1, 0), bits(want));
    }

    private static void trouble(String expression, int want) {
        ByteViews x = parts();
        due("script of " + expression, Feeder.script(x, "r = " + expression + ";"), 0);
        due("troubles of " + expression, x.trouble(-1), 1);
        due("trouble of " + expression, x.trouble(0), want);
    }

    private static void readAs() {
        sentence("An ELEMENT is READ as WHOLE, of f32, f64 as a FLOAT");
        for (int k = 0; k < KINDS.length; k++) {
            ByteViews x = Feeder.with("a " + KINDS[k] + " at 0; d f64 at 8;");
            x.write(0, 0, 7);
            Feeder.script(x, "d = a / 2;");
            due(KINDS[k] + " / 2", x.peek(1, 0), bits(3));
        }
        floating("h / 3", 2.5);
        floating("h / 2", 3.75);
        ByteViews x = Feeder.with("f f32 at 0; d f64 at 8;");
        x.writeFloat(0, 0, bits(0.1));
        Feeder.script(x, "d = f;");
        due("an f32 as a double", x.peek(1, 0), bits((double) 0.1f));
    }

    private static void wholeIntoWhole() {
        sentence("WRITTEN: WHOLE into a whole KIND its lowest bytes");
        long[] values = {0, 1, -1, 127, 128, 255, 256, -128, -129, 32767, 32768, 65535, 65536, -32768, -32769, 0x7fffffffL,
            0x80000000L, 0xffffffffL, 0x100000000L, -0x80000000L, -0x80000001L, MAX, MIN, 0x0123456789abcdefL};
        for (int k = 0; k < KINDS.length; k++) {
            ByteViews x = Feeder.with("a " + KINDS[k] + " at 0; b " + KINDS[k] + " big at 12; v s64 at 24; c " + KINDS[k] + " at 40;");
            int spare = 64 - BITS[k];
            for (long value : values) {
                long want = KINDS[k].charAt(0) == 's' ? value << spare >> spare : value << spare >>> spare;
                due("write " + value + " into " + KINDS[k], x.write(0, 0, value), true);
                due(value + " in " + KINDS[k], x.peek(0, 0), want);
                x.write(1, 0, value);
                due(value + " in " + KINDS[k] + " big", x.peek(1, 0), want);
                x.write(2, 0, value);
                Feeder.script(x, "c = v;");
                due(value + " in " + KINDS[k] + " by a script", x.peek(3, 0), want);
            }
            due("no byte beside " + KINDS[k], x.at(BITS[k] / 8), 0);
        }
    }

    private static void floatIntoWhole() {
        sentence("a FLOAT into a whole KIND: cast to long, then so");
        double[] values = {0.0, -0.0, 0.99, -0.99, 1.0, -1.0, 127.9, 128.5, 255.99, 256.5, -128.9, -129.5, 65535.5, 65536.0, 4294967295.9,
            4294967296.0, 9007199254740993.0, 9223372036854774784.0, 9223372036854775808.0, -9223372036854775808.0, -9223372036854777856.0,
            1e300, -1e300, Double.NaN, Double.POSITIVE_INFINITY, Double.NEGATIVE_INFINITY, Double.MIN_VALUE, -Double.MIN_VALUE};
        for (int k = 0; k < KINDS.length; k++) {
            ByteViews x = Feeder.with("a " + KINDS[k] + " at 0; f f64 at 16; c " + KINDS[k] + " at 24;");
            int spare = 64 - BITS[k];
            for (double value : values) {
                long cast = (long) value;
                long want = KINDS[k].charAt(0) == 's' ? cast << spare >> spare : cast << spare >>> spare;
                x.writeFloat(0, 0, bits(value));
                due(value + " in " + KINDS[k], x.peek(0, 0), want);
                x.writeFloat(1, 0, bits(value));
                Feeder.script(x, "c = f;");
                due(value + " in " + KINDS[k] + " by a script", x.peek(2, 0), want);
                x.poke(24, 77);
                x.copy(1, 2);
                due(value + " in " + KINDS[k] + " by copy", x.peek(2, 0), want);
            }
        }
    }

    private static void intoFloats() {
        sentence("WHOLE or a FLOAT into f32, f64: cast to float, double");
        ByteViews x = Feeder.with("f f32 at 0; d f64 at 8; v s64 at 16;");
        long[] wholes = {0, 1, -1, (1 << 24) - 1, 1 << 24, (1 << 24) + 1, (1 << 24) + 3, -(1 << 24) - 1, (1L << 53) + 1, (1L << 53) + 3, MAX, MIN,
            MAX - 512, (1L << 54) + (1L << 30) + 1, -(1L << 54) - (1L << 30) - 1};
        for (long value : wholes) {
            x.write(0, 0, value);
            due(value + " in f32", x.peek(0, 0), Float.floatToIntBits((float) value));
            x.write(1, 0, value);
            due(value + " in f64", x.peek(1, 0), bits((double) value));
            x.write(2, 0, value);
            Feeder.script(x, "f = v; d = v;");
            due(value + " in f32 by a script", x.peek(0, 0), Float.floatToIntBits((float) value));
            due(value + " in f64 by a script", x.peek(1, 0), bits((double) value));
        }
        double[] floats = {0.0, -0.0, 0.1, 16777217.0, 3.4028234663852886e38, 3.4028235677973362e38, 3.4028235677973366e38, -3.4028235677973366e38, 1e39,
            -1e39, 1.401298464324817e-45, 7.006492321624085e-46, 7.006492321624086e-46, 7e-46, -7e-46, 1.1754943508222875e-38, Double.MAX_VALUE,
            Double.MIN_VALUE, Double.NaN, Double.POSITIVE_INFINITY, Double.NEGATIVE_INFINITY};
        for (double value : floats) {
            x.writeFloat(0, 0, bits(value));
            due(value + " in f32", x.peek(0, 0), Float.floatToIntBits((float) value));
            x.writeFloat(1, 0, bits(value));
            due(value + " in f64", x.peek(1, 0), bits(value));
            Feeder.script(x, "f = 1; f = d;");
            due(value + " in f32 by a script", x.peek(0, 0), Float.floatToIntBits((float) value));
        }
    }

    private static void fields() {
        sentence("A FIELD is READ as WHOLE");
        whole("w.lo / 2", 2);
        whole("w.hi", 0xabc);
        floating("w.lo / 2", 2);
        sentence("WRITTEN: the lowest bits of the VALUE (a FLOAT cast to long) in place of its own, then all of the ELEMENT is WRITTEN");
        ByteViews x = Feeder.with("w u16 at 0 {lo:0-3,mid:4-7,one:8-8,top:15-15}; s s64 big at 8 {b:1-63,z:0-0,c:0-62}; o u8 at 16 ones {lo:0-3,hi:4-7};"
            + "r u16 at 2 x 2 {all:0-15};");
        x.poke(0, 255);
        x.poke(1, 255);
        due("0", Feeder.script(x, "w.mid = 0;"), 1);
        Feeder.bytes("the others stay", x, 0, 0x0f, 0xff);
        Feeder.script(x, "w.mid = 15; w.lo = 16; w.one = 2; w.top = 256;");
        Feeder.bytes("cut to its bits", x, 0, 0xf0, 0x7e);
        Feeder.script(x, "w.mid = -16; w.lo = -1; w.one = -1; w.top = 1;");
        Feeder.bytes("below 0", x, 0, 0x0f, 0xff);
        Feeder.script(x, "w.mid = 18.99; w.lo = -1.5; w.top = 0.99;");
        Feeder.bytes("floats", x, 0, 0x2f, 0x7f);
        Feeder.script(x, "w.lo = 0.0 / 0; w.mid = 1.0 / 0; w.one = -1.0 / 0;");
        Feeder.bytes("NaN and infinite ones", x, 0, 0xf0, 0x7e);
        Feeder.script(x, "s.b = -1;");
        due("63 bits from 1 on", x.peek(1, 0), -2);
        Feeder.script(x, "s.z = 1; s.b = 0;");
        due("the lowest alone", x.peek(1, 0), 1);
        Feeder.script(x, "s = 0; s.c = -1;");
        due("63 bits from 0 on", x.peek(1, 0), MAX);
        Feeder.script(x, "r[1].all = 65536 + 7;");
        Feeder.bytes("of element 1", x, 2, 0, 0, 7, 0);
        x.poke(16, 0xff);
        Feeder.script(x, "o.lo = 1;");
        Feeder.bytes("all of the element of ones", x, 16, 0x0e);
    }

    private static void readOnly() {
        sentence("ACCESS ro: it can't be WRITTEN");
        ByteViews x = Feeder.with("k u16 at 0 x 2 ro {lo:0-3}; a u16 at 8 x 2; g f64 at 16 ro;");
        Feeder.pokes(x, 0, 1, 2, 3, 4);
        x.write(1, 0, 9);
        due("write", x.write(0, 0, 7), false);
        due("write of what it is", x.write(0, 0, 0x0201), false);
        due("writeFloat", x.writeFloat(0, 0, 0), false);
        due("writeFloat of f64", x.writeFloat(2, 0, 0), false);
        due("copy", x.copy(1, 0), -1);
        due("turn", x.turn(0), false);
        due("sort", x.sort(0), false);
        due("fill", x.fill(0, 1), -1);
        due("roll", x.roll(0, 1), false);
        due("roll by 0", x.roll(0, 0), false);
        due("a script", Feeder.script(x, "(k = 1;) (k[1] = 1;) (k.lo = 1;) (g = 1;)"), 0);
        due("its troubles", x.trouble(-1), 4);
        Feeder.bytes("all is as it was", x, 0, 1, 2, 3, 4);
        due("it isn't turned", x.view(0, 1), 0);
        due("read", x.read(0, 1), 0x0403);
        due("copy from it", x.copy(0, 1), 2);
        due("poke", x.poke(0, 5), true);
        due("a view over it", Feeder.views(x, "k u8 at 0 ro; a u8 at 0;"), 2);
        due("written through another view", x.write(1, 0, 6), true);
        due("it is seen", x.peek(0, 0), 6);
    }

    private static void ones() {
        sentence("ones: of the bits WRITTEN those that are 1 become 0, the others stay");
        ByteViews x = Feeder.with("o u16 big at 0 x 2 ones; g f32 at 4 ones; p f64 at 8 ones; a u16 at 16 x 2; s s8 at 20 ones;");
        Feeder.pokes(x, 0, 0xff, 0xff, 0xa5, 0x5a);
        due("0 is written", x.write(0, 0, 0), true);
        due("nothing changed", x.changed(-1), 0);
        x.write(0, 0, 0x8001);
        Feeder.bytes("the top and the low bit", x, 0, 0x7f, 0xfe, 0xa5, 0x5a);
        x.write(0, 0, 0x8001);
        due("bits that are 0 stay 0", x.changed(-1), 0);
        x.write(0, 1, 0x10000);
        Feeder.bytes("the lowest bytes alone", x, 2, 0xa5, 0x5a);
        x.write(0, 1, -1);
        Feeder.bytes("all bits", x, 0, 0x7f, 0xfe, 0, 0);
        x.poke(20, 0xff);
        x.writeFloat(4, 0, bits(3.9));
        Feeder.bytes("a FLOAT cast to long", x, 20, 0xfc);
        x.write(3, 0, 0x0f0f);
        due("copy", x.copy(3, 0), 2);
        Feeder.bytes("copy", x, 0, 0x70, 0xf0, 0, 0);
        due("fill", x.fill(0, 0x10), 2);
        Feeder.bytes("fill", x, 0, 0x70, 0xe0, 0, 0);
        due("script", Feeder.script(x, "o = o;"), 1);
        Feeder.bytes("script", x, 0, 0, 0);
        sentence("(of f32, f64: of its bits as it would stand there)");
        Feeder.pokes(x, 4, 255, 255, 255, 255, 255, 255, 255, 255, 255, 255, 255, 255);
        x.write(1, 0, 0);
        Feeder.bytes("0.0", x, 4, 255, 255, 255, 255);
        x.writeFloat(1, 0, bits(-0.0));
        Feeder.bytes("-0.0", x, 4, 255, 255, 255, 0x7f);
        x.write(1, 0, 1);
        Feeder.bytes("1", x, 4, 255, 255, 0x7f, 0x40);
        x.writeFloat(2, 0, bits(1.5));
        Feeder.bytes("1.5", x, 8, 255, 255, 255, 255, 255, 255, 0x07, 0xc0);
        x.writeFloat(2, 0, 0xffffffffffffffffL);
        Feeder.bytes("NaN", x, 8, 255, 255, 255, 255, 255, 255, 0x07, 0x80);
    }

    private static void reads() {
        sentence("reads: READ by a SCRIPT or read() it becomes 0 behind that (its bytes)");
        ByteViews x = Feeder.with("r u16 at 0 x 3 by 1 reads {lo:0-3,hi:8-15}; a s64 at 8; g f64 at 16 reads; h f32 big at 24 x 2 reads; m u8 at 0 x 8;");
        Feeder.pokes(x, 0, 1, 2, 3, 4);
        due("read", x.read(0, 1), 0x0302);
        Feeder.bytes("its bytes alone", x, 0, 1, 0, 0, 4);
        due("again", x.read(0, 1), 0);
        due("nothing to clear", x.changed(-1), 0);
        Feeder.pokes(x, 0, 1, 2, 3, 4);
        Feeder.script(x, "a = r[2] * 1000 + r[1];");
        due("each as it is then", x.peek(1, 0), 0x0403 * 1000 + 2);
        Feeder.bytes("both are cleared", x, 0, 1, 0, 0, 0);
        x.writeFloat(2, 0, NAN);
        due("f64", x.read(2, 0), NAN);
        due("f64 is 0", x.peek(2, 0), 0);
        x.writeFloat(3, 1, bits(-0.0));
        due("f32", x.read(3, 1), Float.floatToIntBits(-0.0f));
        due("f32 is 0", x.peek(3, 1), 0);
        Feeder.pokes(x, 0, 1, 2, 3, 4);
        x.peek(0, 0);
        x.field(0, 0, 0);
        x.find(0, 0, 5);
        x.sum(0);
        x.copy(0, 1);
        x.rest(2, 0, 1);
        Feeder.bytes("nothing else clears it", x, 0, 1, 2, 3, 4);
        x.write(0, 0, 0x0605);
        Feeder.bytes("writing doesn't", x, 0, 5, 6, 3, 4);
        Feeder.script(x, "r[r[9 * 0] * 0 + 2] = 9;");
        Feeder.bytes("an element's number that is read", x, 0, 0, 0, 9, 0);
        sentence("also if a FIELD is READ");
        Feeder.pokes(x, 0, 0x21, 0x43, 0x65, 0x87);
        Feeder.script(x, "a = r.hi;");
        due("the field", x.peek(1, 0), 0x43);
        Feeder.bytes("all of the element", x, 0, 0, 0, 0x65, 0x87);
        sentence("WRITING a FIELD doesn't READ it so");
        Feeder.pokes(x, 0, 0x21, 0x43, 0x65, 0x87);
        Feeder.script(x, "r.lo = 15;");
        Feeder.bytes("the others stay", x, 0, 0x2f, 0x43, 0x65, 0x87);
        Feeder.script(x, "r.lo = r.hi;");
        Feeder.bytes("read ahead of the writing", x, 0, 0x03, 0, 0x65, 0x87);
    }

    private static void statements() {
        sentence("STATEMENT: PLACE \"=\" EXPR \";\" | \"if\" EXPR STATEMENT | \"fail\" \";\" | \"(\" { STATEMENT } \")\"");
        String views = "a u8 at 0 x 2 {b:0-3}; i u8 at 4;";
        Feeder.scriptsMarked(views, 0, "", " ", "a=1;", "a=1;a=2;", "if 1 a=1;", "if 1 if 0 a=1;", "if 1 fail;", "fail;fail;", "()", "(())", "()()",
            "(a=1;)", "if 1 ()", "if 1 (a=1;a=1;)", "if (1) (a=1;)", "if a(a=1;)", "if a[0](a=1;)", "if a.b(a=1;)", "if 1.5(a=1;)", "if(1)a=1;");
        Feeder.scriptsMarked(views, 1, "a^", "a=^", "a=^;", "a=1^", "a=1^a=2;", "a^;", "^=1;", "^1=1;", "^;", "a=1;^;", "if^", "if ^;", "if 1^", "if 1 ^;",
            "if a^=1;", "if 1 a^;", "fail^", "fail ^fail;", "fail^=1;", "a=1 ^fail;", "(^", "(a=1;^", "(a=1^)", "^)", "()^)", "(^;)", "()^;", "a=1;^)",
            "if 1 ^)", "(if 1 ^)", "i ^1=1;", "^-a=1;", "a=1^,", "a=^=1;", "a^:=1;", "a=^if;", "a=^fail;", "^[1]=1;", "^.b=1;", "(^]");
        sentence("PLACE: NAME [ \"[\" EXPR \"]\" ] [ \".\" NAME ]");
        Feeder.scriptsMarked(views, 0, "a[0]=1;", "a.b=1;", "a[1].b=a[0].b;", "a[a[0]]=1;", "a[1<2]=1;", "a[a[0].b].b=1;");
        Feeder.scriptsMarked(views, 1, "a[^]=1;", "a[0^=1;", "a^]=1;", "a[0]^[0]=1;", "a.b^[0]=1;", "a.^=1;", "a.b^.b=1;", "a.^0=1;", "a=a[^];", "a=a[0^;",
            "a=a[0^);", "a=(a[0^)];", "a=a^];", "a=a[0]^[0];", "a=a.b^.b;", "a=a.^;", "a[0^,1]=1;", "a^(0)=1;");
    }

    private static void expressions() {
        sentence("EXPR: SUM [ ( \"<\" | \">\" | \"~\" ) SUM ]");
        String views = "a u8 at 0 x 2 {b:0-3};";
        Feeder.scriptsMarked(views, 0, "a=1;", "a=1<2;", "a=1>2;", "a=1~2;", "a=(1<2)<3;", "a=1<(2>3);", "a=a[1<2]~a[1>2];", "a=1+2<3*4;", "a=-1<-2;");
        Feeder.scriptsMarked(views, 1, "a=1<2^<3;", "a=1<2^>3;", "a=1~2^~3;", "a=1<^;", "a=^<1;", "a=1<^>2;", "a=(1<2^<3);", "a=a[1<2^<3];", "a=1<2+3^~4;",
            "a=1<2*3^>4;", "if 1<2^<3 a=1;", "a=1<^=2;", "a=1~2-3^<4;", "a=1^!2;", "a=1^&2;");
        sentence("SUM: TERM { ( \"+\" | \"-\" ) TERM }. TERM: FACTOR { ( \"*\" | \"/\" | \"%\" ) FACTOR }");
        whole("1-2-3", -4);
        whole("1-2+3", 2);
        whole("64/4/2", 8);
        whole("64/4*2", 32);
        whole("7*7%10", 9);
        whole("100%7*3", 6);
        whole("2+3*4-5", 9);
        whole("2*3+4*5", 26);
        whole("20-12/4", 17);
        whole("1+2~3", 1);
        whole("3~1+2", 1);
        whole("5-3<2*2", 1);
        Feeder.scriptsMarked(views, 1, "a=1+^;", "a=^+1;", "a=1+^+1;", "a=1*^;", "a=^*1;", "a=1*^*1;", "a=1/^%1;", "a=1-^)", "a=1+2*^;");
        sentence("FACTOR: NUMBER [ \".\" NUMBER ] | PLACE | \"-\" FACTOR | \"(\" EXPR \")\"");
        whole("-3", -3);
        whole("--3", 3);
        whole("---3", -3);
        whole("2--3", 5);
        whole("2---3", -1);
        whole("-2*-3", 6);
        whole("-7/2", -3);
        whole("-(7/2)", -3);
        whole("-row[1]", -20);
        whole("-(1<2)", -1);
        whole("(1<2)+(2>1)", 2);
        whole("((1+2)*(3+4))", 21);
        whole("-w.lo", -5);
        Feeder.scriptsMarked(views, 1, "a=-^;", "a=(^);", "a=(1^;", "a=1^);", "a=(1^]", "a=1 ^1;", "a=1^a;", "a=a ^a;", "a=(1)^(2);",
            "a=1^(2);", "a=a^(2);", "a=(1)^2;", "a=1.^;", "a=1.^a;", "a=^.5;", "a=1.5^.5;", "a=1.^.5;", "a=1.^-5;", "a=(1)^.5;", "a=a.b^.5;");
    }

    private static void floatNumbers() {
        sentence("(A NUMBER with \".\" is a FLOAT: the first one, and the second one by 10 to the power of its digits, as doubles.)");
        floating("1.0 / 2", 0.5);
        floating("1 / 2", 0);
        floating("0.5", 0.5);
        floating("1.5", 1.5);
        floating("1.05", 1 + 5 / 100.0);
        floating("1.50", 1 + 50 / 100.0);
        floating("1.500000000", 1.5);
        floating("0.000000001", 1 / 1e9);
        floating("0.999999999", 999999999 / 1e9);
        floating("1.000000001", 1 + 1 / 1e9);
        floating("999999999.999999999", 999999999 + 999999999 / 1e9);
        floating("123456789.3", 123456789 + 3 / 10.0);
        floating("8.1", 8 + 1 / 10.0);
        floating("007.070", 7 + 70 / 1000.0);
        floating("3 . 25", 3.25);
        floating("-0.0", -0.0);
        floating("0.0", 0.0);
        floating("000000000.000000000", 0.0);
    }

    private static void numbersOfScripts() {
        sentence("NUMBER: .. (of a SCRIPT 1 to 9)");
        whole("0", 0);
        whole("9", 9);
        whole("999999999", 999999999);
        whole("000000007", 7);
        Feeder.scriptsMarked("a u8 at 0 x 2;", 1, "a=^1000000000;", "a=^0000000007;", "a=1.^0000000000;", "a=^1000000000.5;", "a[^0000000001]=1;", "if ^0000000001 a=1;",
            "a=1+^18446744073709551617;", "a=^" + "0".repeat(490) + ";");
        Feeder.scriptsMarked("a u8 at 0 x 2;", 0, "a=0.000000000;", "a[000000001]=1;", "if 000000001 a=1;");
    }

    private static void namesOfNothing() {
        sentence("2: a NAME of no VIEW; of no FIELD of it");
        String views = "a u8 at 0 {b:0-3}; c u8 at 0 {d:0-3}; e f64 at 8;";
        Feeder.scriptsMarked(views, 2, "^b=1;", "^z=1;", "a=^b;", "a=1+^zz;", "a[^z]=1;", "a=a[^z];", "^aa=1;", "if ^z a=1;", "(^z=1;)", "a=1;^z=1;", "^z", "^z;", "^z[", "a=^z");
        Feeder.scriptsMarked(views, 2, "a.^d=1;", "a.^a=1;", "c.^b=1;", "e.^b=1;", "a=a.^d;", "a=e.^b;", "a.^bb=1;", "a[0].^d=1;", "a=a[0].^z;", "a.^z", "a=a.^z");
        Feeder.scriptsMarked(views, 0, "a.b=c.d;", "a[0].b=1;", "e=1;");
        Feeder.scriptsMarked("", 2, "^a=1;", "if ^a fail;");
        Feeder.scriptsMarked("", 0, "fail;", "if 1 fail;", "()", "if 1.5 ()");
        sentence("FAULTS likewise");
        Feeder.scriptsMarked(views, 1, "a=^; z=1;", "a=1 ^z=1;", "^!z=1;", "a.b ^z=1;", "^abcdefg=1;", "a.^abcdefg=1;", "a=^abcdefg;");
        Feeder.scriptsMarked(views, 2, "^z=;", "^z=1000000000;", "a.^z=;");
    }

    private static void sixthOpen() {
        sentence("5: the 6th \"(\" that is open (at it)");
        String views = "a u8 at 0 x 2;";
        Feeder.scriptsMarked(views, 0, "((((()))))", "a=(((((1)))));", "((a=(((1)));))", "(((((a=1;)))))", "((((a=(1);))))", "a[(((((0)))))]=(((((1)))));",
            "if (((((1))))) (((((a=1;)))))", "()()()()()()", "((((()()()))))", "(((((a=1;)a=1;)a=1;)a=1;)a=1;)", "a=(1)+(1)+(1)+(1)+(1)+(1);",
            "a[((0))]=(1+(a[(((0)))]));", "((((a=(1)+(1);))))");
        Feeder.scriptsMarked(views, 5, "(((((^())))))", "a=(((((^(1))))));", "(((((a=^(1);)))))", "((((a=(^(1)+(1));))))", "(((((^(",
            "a=(((((^(", "a[(((((^(0))))))]=1;", "a=(a[((((^(0)))))]);", "if (((((^(1)))))) a=1;", "(((((a=1;^()))))", "((((()(^(",
            "(((((if 1 ^(fail;))))))", "(((((a[^(0)]=1;)))))", "()((((()(^(");
        Feeder.scriptsMarked(views, 1, "(((((^");
        ByteViews x = Feeder.with(views);
        due("a fault with five open", Feeder.script(x, "((((((a=1;"), -1);
        due("none is open then", Feeder.script(x, "(((((a=1;)))))"), 1);
        due("a trouble with five open", Feeder.script(x, "(((((fail;)))))"), 0);
        due("none is open then", Feeder.script(x, "a=(((((2)))));"), 1);
        due("another fault with five open", Feeder.script(x, "a=(((((2"), -1);
        due("five again", Feeder.script(x, "(((((a=3;)))))"), 1);
    }

    private static void fullTape() {
        sentence("THE TAPE (500 bytes): all of a SCRIPT that fills it is done");
        ByteViews x = Feeder.with("a s64 at 0 x 2;");
        x.write(0, 0, 1);
        String[] texts = {"a=" + "a+".repeat(248) + "a;", "a=" + "-".repeat(496) + "5;", "()".repeat(248) + "a=7;", "a=1;".repeat(124) + "a=9;",
            "if 1".repeat(124) + "a=8;", "(a=a+1;)".repeat(62) + "a=a;", "a=" + "1<1+1*a[".repeat(54) + "0" + "]".repeat(54) + ";" + " ".repeat(10),
            "a[" + "-".repeat(493) + "0]=6;", " ".repeat(496) + "a=3;"};
        long[] counts = {1, 1, 1, 125, 1, 63, 1, 1, 1};
        long[] values = {249, 5, 7, 9, 8, 70, 0, 6, 3};
        for (int n = 0; n < texts.length; n++) {
            due("length of text " + n, texts[n].length(), 500);
            due("text " + n, Feeder.script(x, texts[n]), counts[n]);
            due("what text " + n + " gave", x.peek(0, 0), values[n]);
        }
    }

    private static void readAhead() {
        sentence("All of it is read ahead");
        ByteViews x = Feeder.with("a u8 at 0 x 2; r u8 at 4 reads;");
        x.poke(4, 7);
        Feeder.script(x, "(fail;) a=1;");
        due("a fault at its end", Feeder.script(x, "a=2; a[1]=r; (fail;) (fail;) a=3"), -1);
        Feeder.bytes("nothing is done", x, 0, 1, 0, 0, 0, 7);
        due("changes stay", x.changed(-1), 1);
        due("history stays", x.look(3), 2);
        due("troubles stay", x.trouble(-1), 1);
        due("a fault that would not be reached", Feeder.script(x, "fail; z=1;"), -1);
        due("nor within an if", Feeder.script(x, "if 0 a=z;"), -1);
        due("its number", x.fault(0), 2);
        due("its place", x.fault(1), 7);
    }

    private static void fromTheLeft() {
        sentence("It is done from the left");
        String views = "a s64 at 0; r u8 at 8 x 4 reads; k u8 at 16 ro; b u8 at 17 x 2; o u8 at 8 x 4;";
        ByteViews x = Feeder.with(views);
        Feeder.pokes(x, 8, 3, 5, 7, 9);
        Feeder.script(x, "a = r * 10 + r;");
        due("the left one is read first", x.peek(0, 0), 30);
        Feeder.script(x, "a = r[1] - r[1] * 2;");
        due("also where the right one binds tighter", x.peek(0, 0), 5);
        Feeder.script(x, "a = (r[2] < 100) + o[2];");
        due("what is read later is cleared", x.peek(0, 0), 1);
        due("the left trouble first", Feeder.script(x, "a = b[2] + 1/0;"), 0);
        due("it is 1", x.trouble(0), 1);
        due("the left trouble first", Feeder.script(x, "a = 1/0 + b[2];"), 0);
        due("it is 2", x.trouble(0), 2);
        due("statements", Feeder.script(x, "a = 5; a = a * 2; b = a;"), 3);
        due("statements", x.peek(3, 0), 10);
        sentence("\"=\": EXPR of [ ] (then TROUBLE 1, if it is one), EXPR behind \"=\", then it is WRITTEN");
        x = Feeder.with(views);
        Feeder.pokes(x, 8, 1, 5, 7, 9);
        due("the element's number is read first", Feeder.script(x, "b[r] = r + 4;"), 1);
        Feeder.bytes("the element's number is read first", x, 17, 0, 4);
        due("trouble 1 ahead of 2", Feeder.script(x, "b[2] = 1/0;"), 0);
        due("it is 1", x.trouble(0), 1);
        due("trouble 2 of [ ] ahead of 1 of the rest", Feeder.script(x, "b[1/0] = b[2];"), 0);
        due("it is 2", x.trouble(0), 2);
        due("trouble 2 ahead of 3", Feeder.script(x, "k = 1/0;"), 0);
        due("it is 2", x.trouble(0), 2);
        due("trouble 1 behind = ahead of 3", Feeder.script(x, "k = b[2];"), 0);
        due("it is 1", x.trouble(0), 1);
        due("trouble 1 of a ro", Feeder.script(x, "k[1] = 1;"), 0);
        due("it is 1", x.trouble(0), 1);
        due("written last", Feeder.script(x, "o[1] = r[1] + 1;"), 1);
        Feeder.bytes("written last", x, 9, 6);
    }

    private static void wholes() {
        sentence("Both WHOLE: longs, which wrap, / cut towards 0");
        whole("max + 1", MIN);
        whole("min - 1", MAX);
        whole("max * 2", -2);
        whole("max * max", 1);
        whole("min * -1", MIN);
        whole("min / -1", MIN);
        whole("min % -1", 0);
        whole("min + min", 0);
        whole("max - -1", MIN);
        whole("999999999 * 999999999 * 999999999", 999999999L * 999999999 * 999999999);
        whole("7 / 2", 3);
        whole("-7 / 2", -3);
        whole("7 / -2", -3);
        whole("-7 / -2", 3);
        whole("1 / 2", 0);
        whole("-1 / 2", 0);
        whole("7 % 3", 1);
        whole("-7 % 3", -1);
        whole("7 % -3", 1);
        whole("max / 2", MAX / 2);
        whole("big1 + 1 - big1", 1);
        sentence("- of a WHOLE one wraps");
        whole("-min", MIN);
        whole("-max", -MAX);
        whole("-0", 0);
        floating("-0", 0.0);
    }

    private static void doubles() {
        sentence("else doubles (the other cast)");
        floating("big1 + 0.0", 9007199254740992.0);
        floating("0.0 + big1", 9007199254740992.0);
        whole("big1 * 1.0", 1L << 53);
        whole("1.0 * big1", 1L << 53);
        whole("max + 0.0", MAX);
        whole("(max + 1) * 1.0", MIN);
        floating("7 / 2.0", 3.5);
        floating("7.0 / 2", 3.5);
        floating("7 - 0.5", 6.5);
        floating("0.5 - 7", -6.5);
        floating("-7 / -2.0", 3.5);
        floating("7 / -2.0", -3.5);
        floating("-7 * -0.5", 3.5);
        floating("7 * -0.5", -3.5);
        floating("1 / 3.0", 1 / 3.0);
        floating("0.1 * 0.3", 0.1 * (3 / 10.0));
        floating("max * 1.1", MAX * (1 + 1 / 10.0));
        floating("1 / 0.0", Double.POSITIVE_INFINITY);
        floating("1.0 / 0", Double.POSITIVE_INFINITY);
        floating("-1 / 0.0", Double.NEGATIVE_INFINITY);
        floating("1 / zero", Double.NEGATIVE_INFINITY);
        floating("0 / 0.0", Double.NaN);
        floating("0.0 / 0", Double.NaN);
        floating("0.0 % 0", Double.NaN);
        floating("5 % 0.0", Double.NaN);
        floating("inf % 2", Double.NaN);
        floating("5 % inf", 5);
        floating("-5.5 % 2", -1.5);
        floating("5.5 % -2", 1.5);
        floating("zero % 2", -0.0);
        floating("inf - inf", Double.NaN);
        floating("inf + neg", Double.NaN);
        floating("inf * 0", Double.NaN);
        floating("inf * -1", Double.NEGATIVE_INFINITY);
        floating("inf / inf", Double.NaN);
        floating("nan + 1", Double.NaN);
        floating("-nan", Double.NaN);
        floating("-inf", Double.NEGATIVE_INFINITY);
        floating("-zero", 0.0);
        floating("zero + zero", -0.0);
        floating("zero + 0", 0.0);
        floating("zero - 0", -0.0);
        floating("zero * -1", 0.0);
        floating("0 * -1.0", -0.0);
        floating("0.1 + 0.2", 0.1 + 0.2);
        floating("1.0 - 1", 0.0);
    }

    private static void comparisons() {
        sentence("< > ~ are 1 or 0 (WHOLE)");
        String[] one = {"1 < 2", "2 > 1", "2 ~ 2", "min < max", "max > min", "1 < 1.5", "1.5 > 1", "1 ~ 1.0", "1.0 ~ 1", "0.0 ~ zero", "0 ~ zero",
            "neg < inf", "inf ~ inf", "inf > max", "neg < min", "-1 < 0", "0.0 < 0.5",
            "-0.5 < 0.0", "0.5 > zero", "zero > -0.5", "0 < 0.5", "0.5 > 0", "neg < 0.0", "inf > zero"};
        String[] none = {"2 < 1", "1 > 2", "1 ~ 2", "2 < 2", "2 > 2", "max < min", "1.5 < 1", "1 > 1.5", "1 ~ 1.5", "zero < 0", "0 > zero", "zero < 0.0",
            "nan ~ nan", "nan < 1", "nan > 1", "1 < nan", "1 > nan", "nan ~ 0", "inf < inf", "inf > inf", "max ~ min", "0 < -1",
            "0.0 > 0.5", "-0.5 > 0.0", "0.5 < zero", "zero < -0.5", "0.5 ~ 0.0", "0.0 ~ 0.5", "0.0 > zero"};
        for (String expression : one) {
            whole(expression, 1);
        }
        for (String expression : none) {
            whole(expression, 0);
        }
        floating("(1.5 < 2.5) / 2", 0);
        floating("(1.5 ~ 1.5) / 2", 0);
        floating("(2.5 > 1.5) / 2", 0);
        whole("big1 ~ big1 - 1", 0);
        whole("big1 ~ big1 - 1 + 0.0", 1);
    }

    private static void ifs() {
        sentence("\"if\": done if it isn't 0");
        String[] done = {"1", "-1", "max", "min", "0.1", "-0.1", "nan", "inf", "1 < 2", "row", "0.000000001", "256", "999999999 * 4"};
        String[] not = {"0", "0.0", "zero", "-0.0", "1 > 2", "1 - 1", "r", "min + min", "0 * -1.0"};
        for (String condition : done) {
            ByteViews x = parts();
            due("if " + condition, Feeder.script(x, "if " + condition + " row[1] = 99; row[2] = 98;"), 2);
            Feeder.bytes("if " + condition, x, 73, 99, 98);
        }
        for (String condition : not) {
            ByteViews x = parts();
            due("if " + condition, Feeder.script(x, "if " + condition + " row[1] = 99; row[2] = 98;"), 1);
            Feeder.bytes("if " + condition, x, 73, 20, 98);
        }
        ByteViews x = parts();
        due("a group that isn't done", Feeder.script(x, "if 0 (row = 1; (fail;) fail;) row = 2;"), 1);
        due("its troubles", x.trouble(-1), 0);
        due("an if that isn't done within one", Feeder.script(x, "if 1 if 0 if 1 row = 3; row[1] = 4;"), 1);
        Feeder.bytes("an if that isn't done within one", x, 72, 2, 4);
        due("an if within one that isn't done", Feeder.script(x, "if 0 if 1/0 row = 5;"), 0);
        due("its troubles", x.trouble(-1), 0);
    }

    private static void noElement() {
        sentence("TROUBLES: 1 an ELEMENT that there is not (without [ ] it is 0; a FLOAT cast to long)");
        whole("row", 10);
        whole("row[0]", 10);
        whole("row[2]", 30);
        whole("max[0]", MAX);
        whole("row[0.99]", 10);
        whole("row[-0.99]", 10);
        whole("row[2.99]", 30);
        whole("row[-0.0]", 10);
        whole("row[nan]", 10);
        whole("row[999999999 * 999999999 * 0]", 10);
        String[] none = {"row[3]", "row[-1]", "row[3.0]", "row[-1.0]", "row[inf]", "row[neg]", "row[max]", "row[min]", "row[max + 1]", "row[999999999]",
            "row[65536 * 65536]", "row[65536 * 65536 + 1]", "row[256]", "max[1]", "max[-1]", "row[row]", "w[1].lo", "row[row[3] * 0]"};
        for (String expression : none) {
            trouble(expression, 1);
        }
        String[] places = {"row[3]", "row[-1]", "row[2.99 + 0.01]", "row[inf]", "r[1]", "w[1].lo", "row[65536 * 65536]", "row[row[3]]"};
        for (String place : places) {
            ByteViews x = parts();
            due("script of " + place, Feeder.script(x, place + " = 1; row = 7;"), 0);
            due("trouble of " + place, x.trouble(0), 1);
            due("the script is over behind " + place, x.at(72), 10);
        }
        ByteViews x = parts();
        due("the last", Feeder.script(x, "row[2] = 1; row[1.99] = 2; row[-0.5] = 3; w[0].lo = 4;"), 4);
        Feeder.bytes("the last", x, 72, 3, 2, 1);
    }

    private static void byZero() {
        sentence("2 / or % of WHOLE ones by 0");
        trouble("1 / 0", 2);
        trouble("1 % 0", 2);
        trouble("0 / 0", 2);
        trouble("0 % 0", 2);
        trouble("min / 0", 2);
        trouble("5 / (1 - 1)", 2);
        trouble("5 % (1 > 2)", 2);
        trouble("row / r", 2);
        whole("1 / 0.5", 2);
        floating("1 / 0.0", Double.POSITIVE_INFINITY);
        floating("1.0 % 0", Double.NaN);
        floating("1 / zero", Double.NEGATIVE_INFINITY);
        whole("0 / 1", 0);
        whole("0 % 1", 0);
    }

    private static void toReadOnly() {
        sentence("3 a ro is to be WRITTEN");
        ByteViews x = Feeder.with("k u8 at 0 x 2 ro {b:0-3}; r u8 at 4 reads; a u8 at 5;");
        x.poke(4, 9);
        due("an element", Feeder.script(x, "k[1] = r; a = 1;"), 0);
        due("it is 3", x.trouble(0), 3);
        due("one came", x.trouble(-1), 1);
        Feeder.bytes("what was read is undone", x, 4, 9, 0);
        due("what it is", Feeder.script(x, "k = k;"), 0);
        due("it is 3 too", x.trouble(0), 3);
        due("a field", Feeder.script(x, "k.b = 0;"), 0);
        due("a field is 3", x.trouble(0), 3);
        due("within an if that isn't done", Feeder.script(x, "if 0 k = 1; a = 2;"), 1);
        due("no trouble", x.trouble(-1), 0);
        due("read alone", Feeder.script(x, "a = k + k.b + k[1];"), 1);
    }

    private static void fail() {
        sentence("4 fail");
        ByteViews x = Feeder.with("a u8 at 0;");
        due("fail", Feeder.script(x, "fail;"), 0);
        due("it is 4", x.trouble(0), 4);
        due("one came", x.trouble(-1), 1);
        due("the script is over", Feeder.script(x, "a = 1; fail; a = 2; fail;"), 1);
        due("one came", x.trouble(-1), 1);
        Feeder.bytes("what was done ahead stays", x, 0, 1);
        due("fail in a group", Feeder.script(x, "(fail;) (fail; fail;) a = 3;"), 1);
        due("two came", x.trouble(-1), 2);
    }

    private static void groupUndone() {
        sentence("With a TROUBLE the innermost GROUP round it is undone, all of it (what was cleared by READING, too), and it goes on behind that");
        String[] troubles = {"a[8] = 1;", "a = 1/0;", "k = 1;", "fail;", "a = a[8];", "if 1/0 a = 1;", "if 1 fail;", "a[1/0] = 1;"};
        int[] numbers = {1, 2, 3, 4, 1, 2, 4, 2};
        for (int n = 0; n < troubles.length; n++) {
            ByteViews x = Feeder.with("a u8 at 0 x 8; k u8 at 12 ro; r u8 at 16 reads; s u8 at 17 reads;");
            x.poke(16, 50);
            x.poke(17, 60);
            String text = "a = 1; (a[1] = 2; (a[2] = r; a[3] = s; " + troubles[n] + " a[4] = 9;) a[5] = r;) a[6] = 4;";
            due("script " + text, Feeder.script(x, text), 4);
            due("troubles of " + text, x.trouble(-1), 1);
            due("trouble of " + text, x.trouble(0), numbers[n]);
            Feeder.bytes(text, x, 0, 1, 2, 0, 0, 0, 50, 4, 0);
            Feeder.bytes("read in " + text, x, 16, 0, 60);
        }
        ByteViews x = Feeder.with("a u8 at 0 x 8; r u8 at 16 reads;");
        x.poke(16, 5);
        due("an if round the group", Feeder.script(x, "if r (a = 1; fail;) a[1] = 2;"), 1);
        Feeder.bytes("what the if read stays so", x, 16, 0);
        due("all of five", Feeder.script(x, "(a=1;(a=2;(a=3;(a=4;(a=5;fail;)fail;)fail;)fail;)fail;) a[1]=7;"), 1);
        due("five came", x.trouble(-1), 5);
        Feeder.bytes("all of five", x, 0, 0, 7);
        due("the innermost of five", Feeder.script(x, "(a=1;(a=2;(a=3;(a=4;(a=5;fail;)))))"), 4);
        Feeder.bytes("the innermost of five", x, 0, 4);
        due("the brackets of an EXPR are no group", Feeder.script(x, "(a = 8; a = (1/(0)); a = 9;) a[2] = 3;"), 1);
        Feeder.bytes("the brackets of an EXPR are no group", x, 0, 4, 7, 3);
        due("what was written twice", Feeder.script(x, "(a = 8; a = 9; a = 10; fail;)"), 0);
        due("no changes", x.changed(-1), 0);
        due("groups side by side", Feeder.script(x, "(a=1; fail;) (a[1]=2;) (a[2]=9; fail;) (a[3]=4;)"), 2);
        Feeder.bytes("groups side by side", x, 0, 4, 2, 3, 4);
    }

    private static void statementUndone() {
        sentence("without a GROUP the STATEMENT that isn't within another one is undone and the SCRIPT is over");
        ByteViews x = Feeder.with("a u8 at 0 x 8; k u8 at 12 ro; r u8 at 16 reads; s u8 at 17 reads;");
        Feeder.pokes(x, 16, 5, 6);
        due("all ifs round it", Feeder.script(x, "a = 1; if r if s fail; a = 2;"), 1);
        Feeder.bytes("all that they read", x, 16, 5, 6);
        Feeder.bytes("what was done ahead stays", x, 0, 1);
        due("its own reading", Feeder.script(x, "a[1] = r; a[2] = s / 0; a[3] = 1;"), 1);
        Feeder.bytes("its own reading", x, 16, 0, 6);
        Feeder.bytes("its own reading", x, 0, 1, 5, 0, 0);
        due("the if of a group has the trouble", Feeder.script(x, "if s/0 (a = 9;) a = 8;"), 0);
        Feeder.bytes("the if of a group has the trouble", x, 17, 6);
        due("behind a group that was undone", Feeder.script(x, "(a = 7; fail;) a[4] = 1; fail; a[5] = 1;"), 1);
        due("two came", x.trouble(-1), 2);
        Feeder.bytes("behind a group that was undone", x, 0, 1);
        Feeder.bytes("behind a group that was undone", x, 4, 1, 0);
        due("behind a group that ended", Feeder.script(x, "(a = 7; a[1] = 8;) fail; a = 9;"), 2);
        Feeder.bytes("behind a group that ended", x, 0, 7, 8);
        due("right at the begin", Feeder.script(x, "fail; a = 1;"), 0);
        due("an if that isn't done ahead", Feeder.script(x, "if 0 (a=1;) k=1; a=2;"), 0);
        Feeder.bytes("an if that isn't done ahead", x, 0, 7);
    }

    private static void groupWithin() {
        sentence("A GROUP that ends is done (one round it may undo it)");
        ByteViews x = Feeder.with("a u8 at 0 x 8; r u8 at 16 reads;");
        x.poke(16, 5);
        due("one round it", Feeder.script(x, "((a = 1; a[1] = r;) (a[2] = 3;) fail;) a[3] = 4;"), 1);
        Feeder.bytes("one round it", x, 0, 0, 0, 0, 4);
        Feeder.bytes("one round it", x, 16, 5);
        due("without a trouble", Feeder.script(x, "((a = 1; a[1] = r;) (a[2] = 3;))"), 3);
        Feeder.bytes("without a trouble", x, 0, 1, 5, 3, 4);
        due("the outermost", Feeder.script(x, "(a=9;((a=8;)a=7;)a=6;fail;)"), 0);
        Feeder.bytes("the outermost", x, 0, 1);
        due("one between", Feeder.script(x, "(a=9;((a=8;)a[1]=7;fail;)a[2]=6;)"), 2);
        Feeder.bytes("one between", x, 0, 9, 5, 6);
        due("a trouble behind it is none of its", Feeder.script(x, "(a = 3;) fail;"), 1);
        Feeder.bytes("a trouble behind it is none of its", x, 0, 3);
    }

    private static ByteViews changing() {
        ByteViews x = Feeder.with("a u16 at 0 x 3; r u16 at 8 x 2 reads; b u8 at 16 x 4; k u8 at 20 ro; l u16 at 30 x 3 by 1; f f32 at 40;"
            + "s s16 at 6 x 2;");
        Feeder.pokes(x, 0, 3, 0, 2, 0, 1, 0);
        Feeder.pokes(x, 8, 7, 0, 0, 9);
        Feeder.pokes(x, 16, 4, 3, 2, 1);
        return x;
    }

    /** One of the calls that tell changes. */
    private static void change(ByteViews x, int which) {
        switch (which) {
            case 0 -> Feeder.script(x, "a[2] = 9; a = 256;");
            case 1 -> x.read(1, 1);
            case 2 -> x.write(0, 1, 0x102);
            case 3 -> x.writeFloat(5, 0, bits(1));
            case 4 -> x.poke(63, 255);
            case 5 -> x.copy(2, 0);
            case 6 -> x.fill(2, 3);
            case 7 -> x.roll(2, 1);
            case 8 -> x.turn(0);
            case 9 -> x.sort(0);
            default -> x.undo();
        }
    }

    /** One of the calls that tell changes, so that there are none. */
    private static void changeNone(ByteViews x, int which) {
        switch (which) {
            case 0 -> Feeder.script(x, "");
            case 1 -> Feeder.script(x, "fail;");
            case 2 -> x.read(0, 0);
            case 3 -> x.write(0, 0, 65539);
            case 4 -> x.writeFloat(0, 0, bits(3.5));
            case 5 -> x.poke(0, 259);
            case 6 -> x.copy(4, 4);
            case 7 -> x.fill(4, 0);
            case 8 -> x.roll(0, 3);
            case 9 -> x.turn(2);
            case 10 -> x.sort(6);
            default -> x.read(6, 0);
        }
    }

    private static void changes() {
        sentence("CHANGES: offsets, rising, of BYTES that are others than ahead of the latest script(), read(), write(), writeFloat(), poke(), copy(), fill(), roll(), turn(), sort(), undo()");
        int[][] want = {{0, 1, 4}, {11}, {3}, {42, 43}, {63}, {0, 2, 4}, {16, 18, 19}, {16, 17, 18, 19}, {0, 1, 2, 3, 4, 5}, {0, 4}, {19}};
        for (int which = 0; which < want.length; which++) {
            ByteViews x = changing();
            change(x, which);
            due("how many by call " + which, x.changed(-1), want[which].length);
            for (int i = 0; i < want[which].length; i++) {
                due("change " + i + " by call " + which, x.changed(i), want[which][i]);
            }
            due("no more by call " + which, x.changed(want[which].length), -1);
            x.poke(63, x.at(63));
            due("none behind one that changes none", x.changed(-1), 0);
        }
        for (int which = 0; which < 12; which++) {
            ByteViews x = changing();
            due("one ahead of call " + which, x.changed(-1), 1);
            changeNone(x, which);
            due("none behind call " + which, x.changed(-1), 0);
        }
        ByteViews x = changing();
        Feeder.script(x, "a = 9; a = 3;");
        due("back as it was", x.changed(-1), 0);
        x.poke(1, 7);
        Feeder.views(x, "z u8 at 0;");
        Feeder.named(x, "z");
        x.peek(0, 0);
        x.show(0);
        x.look(0);
        due("other calls leave them", x.changed(0), 1);
        sentence("none behind memory()");
        x.memory(64);
        due("behind memory()", x.changed(-1), 0);
        due("the first behind memory()", x.changed(0), -1);
        sentence("none at first");
        due("of a new object", new ByteViews().changed(-1), 0);
    }

    private static void refusedCalls() {
        sentence("that was not refused (NONE, false; read() as it tells there is none such)");
        for (int which = 0; which < 23; which++) {
            ByteViews x = changing();
            x.memory(64);
            Feeder.views(x, "a u16 at 0 x 3; r u8 at 8 reads; b u8 at 16 x 4; k u8 at 20 ro; l u16 at 30 x 3 by 1; f f32 at 40;");
            due("nothing to undo", x.undo(), false);
            x.poke(50, 1);
            x.poke(51, 2);
            due("call " + which + " is refused", refused(x, which), true);
            due("changes behind call " + which, x.changed(-1), 1);
            due("the change behind call " + which, x.changed(0), 51);
            due("history behind call " + which, x.look(3), 2);
        }
        ByteViews x = new ByteViews();
        x.poke(5, 1);
        x.undo();
        due("undo() is refused", x.undo(), false);
        due("changes behind it", x.changed(0), 5);
    }

    private static boolean refused(ByteViews x, int which) {
        long none = Long.MIN_VALUE + 7;
        return switch (which) {
            case 0 -> Feeder.script(x, "a = 1; a = z;") == -1;
            case 1 -> x.read(6, 0) == none;
            case 2 -> x.read(0, 3) == none;
            case 3 -> x.read(1, -1) == none;
            case 4 -> !x.write(6, 0, 1);
            case 5 -> !x.write(0, 3, 1);
            case 6 -> !x.write(3, 0, 1);
            case 7 -> !x.writeFloat(6, 0, 1);
            case 8 -> !x.writeFloat(0, -1, 1);
            case 9 -> !x.writeFloat(3, 0, 1);
            case 10 -> !x.poke(64, 1);
            case 11 -> !x.poke(-1, 1);
            case 12 -> x.copy(0, 3) == -1;
            case 13 -> x.copy(6, 0) == -1;
            case 14 -> x.copy(0, -1) == -1;
            case 15 -> x.fill(3, 1) == -1;
            case 16 -> x.fill(6, 1) == -1;
            case 17 -> !x.roll(0, 65);
            case 18 -> !x.roll(3, 1);
            case 19 -> !x.turn(3);
            case 20 -> !x.sort(4);
            case 21 -> !x.sort(1);
            default -> !x.memory(257);
        };
    }

    private static void history() {
        sentence("HISTORY: MEMORY ahead of each of these but undo() that CHANGED some");
        for (int which = 0; which < 10; which++) {
            ByteViews x = changing();
            int[] ahead = new int[64];
            x.memory(64);
            Feeder.views(x, "a u16 at 0 x 3; r u16 at 8 x 2 reads; b u8 at 16 x 4; k u8 at 20 ro; l u16 at 30 x 3 by 1; f f32 at 40;");
            Feeder.script(x, "a=3; a[1]=2; a[2]=1; r=7; r[1]=2304; b=4; b[1]=3; b[2]=2; b[3]=1;");
            for (int i = 0; i < 64; i++) {
                ahead[i] = x.at(i);
            }
            due("one ahead of call " + which, x.look(3), 1);
            change(x, which);
            due("one more by call " + which, x.look(3), 2);
            due("undo of call " + which, x.undo(), true);
            Feeder.bytes("behind the undoing of call " + which, x, 0, ahead);
            due("one less", x.look(3), 1);
        }
        ByteViews x = changing();
        x.memory(64);
        Feeder.views(x, "a u8 at 0 x 3; r u8 at 8 reads; g u8 big at 16;");
        x.read(1, 0);
        x.write(0, 0, 256);
        x.writeFloat(0, 0, 0);
        x.poke(9, 256);
        x.copy(0, 1);
        x.fill(0, 0);
        x.roll(0, 1);
        x.turn(2);
        x.sort(0);
        Feeder.script(x, "a = 1; a = 0; (a = 7; fail;)");
        due("none of those that change none", x.look(3), 0);
        due("nothing to undo", x.undo(), false);
        sentence("HISTORY: .. 8 at most (the oldest goes)");
        for (int n = 1; n <= 7; n++) {
            x.poke(3, n);
            due("history of " + n, x.look(3), n);
        }
        x.poke(3, 8);
        due("history of 8", x.look(3), 8);
        x.poke(3, 8);
        due("one that changes none", x.look(3), 8);
        x.poke(3, 9);
        due("history of 9", x.look(3), 8);
        for (int n = 8; n >= 1; n--) {
            due("undo to " + n, x.undo(), true);
            due("undone to " + n, x.at(3), n);
            due("history of " + (n - 1), x.look(3), n - 1);
        }
        due("the oldest is gone", x.undo(), false);
        due("it stays", x.at(3), 1);
        for (int n = 2; n <= 20; n++) {
            x.poke(3, n);
        }
        x.undo();
        x.undo();
        x.poke(3, 30);
        due("one in place of those undone", x.look(3), 7);
        int[] back = {18, 17, 16, 15, 14, 13, 12};
        for (int n : back) {
            due("undo to " + n, x.undo(), true);
            due("undone to " + n, x.at(3), n);
        }
        due("none is left", x.undo(), false);
    }
}
