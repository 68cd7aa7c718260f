/** One method for each promise of the document: ordinary inputs, its edges, wrong inputs. */
public final class PromiseTest {
    private static final long NO_ELEMENT = Long.MIN_VALUE + 7;
    private static final long NAN = 0x7ff8000000000000L;

    private PromiseTest() {
    }

    public static void main(String[] args) {
        newObject();
        memory();
        feed();
        end();
        views();
        viewFaults();
        fieldFaults();
        script();
        scriptFaults();
        scriptNumbers();
        scriptOrder();
        scriptGroups();
        scriptAccess();
        fault();
        trouble();
        view();
        named();
        read();
        peek();
        field();
        write();
        writeFloat();
        at();
        poke();
        changed();
        seen();
        over();
        here();
        copy();
        turn();
        sort();
        fill();
        roll();
        show();
        out();
        find();
        sum();
        rest();
        undo();
        look();
        Feeder.finish();
    }

    private static void due(String what, long got, long want) {
        Feeder.due(what, got, want);
    }

    private static void due(String what, boolean got, boolean want) {
        Feeder.due(what, got, want);
    }

    private static long bits(double x) {
        return Double.doubleToLongBits(x);
    }

    private static void bytes(String what, ByteViews x, int from, int... want) {
        Feeder.bytes(what, x, from, want);
    }

    private static void pokes(ByteViews x, int from, int... values) {
        Feeder.pokes(x, from, values);
    }

    private static void viewFault(String text, int number, int place) {
        Feeder.viewFault(64, text, number, place);
    }

    private static void scriptFault(String text, int number, int place) {
        Feeder.scriptFault("a u8 at 0 x 4; b u8 at 4 {lo:0-3,a:4-7}; f f32 at 8;", text, number, place);
    }

    private static void newObject() {
        ByteViews x = new ByteViews();
        due("new: bytes", x.look(0), 64);
        due("new: views", x.look(1), 0);
        due("new: set", x.look(2), 0);
        due("new: history", x.look(3), 0);
        due("new: tape", x.look(4), 0);
        due("new: changes", x.changed(-1), 0);
        due("NONE", ByteViews.NONE, -1);
    }

    private static void memory() {
        ByteViews x = Feeder.with("a u8 at 0;");
        x.poke(3, 9);
        Feeder.put(x, "abc");
        due("memory(0)", x.memory(0), false);
        due("memory(-1)", x.memory(-1), false);
        due("memory(257)", x.memory(257), false);
        due("refused: byte", x.at(3), 9);
        due("refused: views", x.look(1), 1);
        due("refused: history", x.look(3), 1);
        due("refused: changes", x.changed(-1), 1);
        due("memory(256)", x.memory(256), true);
        due("256 bytes", x.look(0), 256);
        due("all 0", x.look(2), 0);
        due("no views", x.look(1), 0);
        due("no history", x.undo(), false);
        due("no changes", x.changed(-1), 0);
        due("tape stays", x.look(4), 3);
        due("last byte", x.at(255), 0);
        due("memory(1)", x.memory(1), true);
        due("one byte", x.at(1), -1);
    }

    private static void feed() {
        ByteViews x = new ByteViews();
        for (int i = 1; i <= 25; i++) {
            due("feed " + i, x.feed(0, 0, 0, 0, 0), 20 * i);
        }
        due("feed of 520", x.feed(0, 0, 0, 0, 0), -1);
        due("tape stays", x.look(4), 500);
        x.end(481);
        due("feed of 501", x.feed(0, 0, 0, 0, 0), -1);
        x.end(480);
        due("feed of 500", x.feed(0, 0, 0, 0, 0), 500);
        x.end(0);
        // "a u8 at 0;" by its bytes, the highest first.
        x.feed(0x61207538, 0x20617420, 0x303b2020, 0x20202020, 0x20202020);
        due("views of what was fed", x.views(), 1);
        due("kind of what was fed", x.view(0, 0), 0);
        x.feed(0x61207538, 0x20617420, 0x303b8020, 0x20202020, 0x20202020);
        due("a byte above 127", x.views(), -1);
        due("its place", x.fault(1), 10);
    }

    private static void end() {
        ByteViews x = new ByteViews();
        x.feed(1, 2, 3, 4, 5);
        due("end(21)", x.end(21), false);
        due("end(-1)", x.end(-1), false);
        due("tape stays", x.look(4), 20);
        due("end(20)", x.end(20), true);
        due("end(7)", x.end(7), true);
        due("tape is cut", x.look(4), 7);
        due("end(8)", x.end(8), false);
        due("end(0)", x.end(0), true);
        due("tape is empty", x.look(4), 0);
    }

    private static void views() {
        ByteViews x = new ByteViews();
        due("no views", x.views(), 0);
        due("two", Feeder.views(x, "a u8 at 0;\nb s64 big at 56;"), 2);
        due("in place of those", Feeder.views(x, "  c u8 at 63 ; \n"), 1);
        due("a is gone", Feeder.named(x, "a"), -1);
        due("none by an empty tape", Feeder.views(x, ""), 0);
        due("none are left", x.look(1), 0);
        viewFault("a u8 at 0x 2by 1ro{b:0-0,c:1-7};d f32 big at 4 x 2 by 56;", 0, -1);
        viewFault("a u8at 0;", 1, 2);
        viewFault("a u8 at 060 x 004 by 001 ones;", 0, -1);
        viewFault("abcdef u8 at 0;", 0, -1);
        viewFault("a1 u8 at 0; b s8 at 0; c u16 at 0; d s16 at 0; e u32 at 0; f s32 at 0; g s64 at 0;"
            + "h f32 at 0; i f64 at 0;", 0, -1);
    }

    private static void viewFaults() {
        viewFault(" ", 0, -1);
        viewFault("abcdefg u8 at 0;", 1, 0);
        viewFault(" big u8 at 0;", 1, 1);
        viewFault("if u8 at 0;", 1, 0);
        viewFault("u16 u8 at 0;", 1, 0);
        viewFault("A u8 at 0;", 1, 0);
        viewFault("1a u8 at 0;", 1, 0);
        viewFault("a u9 at 0;", 1, 2);
        viewFault("a u8 x 0;", 1, 5);
        viewFault("a u8 at x;", 1, 8);
        viewFault("a u8 at 0000;", 1, 8);
        viewFault("a u8 at 0", 1, 9);
        viewFault("a u8 at 0   ", 1, 12);
        viewFault("a u8 at 0 by 2;", 1, 10);
        viewFault("a u8 at 0 big;", 1, 10);
        viewFault("a u8 at 0 x 2 ro ones;", 1, 17);
        viewFault("a u8 at 0;;", 1, 10);
        viewFault("a u8\tat 0;", 1, 4);
        viewFault("a u8 at 0; a u8 at 1;", 2, 11);
        viewFault("a u8 at 64;", 3, 8);
        viewFault("a u16 at 63;", 3, 9);
        viewFault("a s64 at 57;", 3, 9);
        viewFault("a s64 at 56;", 0, -1);
        viewFault("a u8 at 999;", 3, 8);
        viewFault("a u8 at 0 x 0;", 3, 12);
        viewFault("a u8 at 0 x 65;", 3, 12);
        viewFault("a u8 at 0 x 64;", 0, -1);
        viewFault("a u8 at 1 x 64;", 3, 12);
        viewFault("a u8 at 1 x 64 !;", 3, 12);
        viewFault("a u8 at 1 x 64 by !;", 1, 18);
        viewFault("a u8 at 0 x 2 by 0;", 3, 17);
        viewFault("a u8 at 0 x 1 by 65;", 3, 17);
        viewFault("a u8 at 0 x 2 by 64;", 3, 17);
        viewFault("a u8 at 0 x 2 by 63;", 0, -1);
        viewFault("a u16 at 0 x 63 by 1;", 0, -1);
        viewFault("a u16 at 0 x 64 by 1;", 3, 19);
        viewFault("a f32 at 0{b:0-1};", 4, 10);
        viewFault("a f64 at 0 ro {b:0-1};", 4, 14);
        StringBuilder many = new StringBuilder();
        for (char c = 'a'; c < 'a' + 16; c++) {
            many.append(c).append(" u8 at 0;");
        }
        viewFault(many.toString(), 0, -1);
        viewFault(many + "q u8 at 0;", 4, 160);
        viewFault(many + "a u8 at 0;", 2, 160);
        viewFault(many + "at u8 at 0;", 1, 160);
        viewFault(many + "q", 4, 160);
    }

    private static void fieldFaults() {
        viewFault("a u8 at 0 {};", 1, 11);
        viewFault("a u8 at 0 {b:0-7", 1, 16);
        viewFault("a u8 at 0 {b:0-7,};", 1, 17);
        viewFault("a u8 at 0 {b 0-7};", 1, 13);
        viewFault("a u8 at 0 {b:0:7};", 1, 14);
        viewFault("a u8 at 0 {ro:0-7};", 1, 11);
        viewFault("a u8 at 0 {a:0-7};", 0, -1);
        viewFault("a u8 at 0 {b:0-1,b:2-3};", 2, 17);
        viewFault("a u8 at 0 {b:0-1};c u8 at 0{b:0-1};", 0, -1);
        viewFault("a u8 at 0 {b:0-8};", 3, 15);
        viewFault("a u8 at 0 {b:8-9};", 3, 13);
        viewFault("a u8 at 0 {b:8-2};", 3, 13);
        viewFault("a u8 at 0 {b:8!", 3, 13);
        viewFault("a u8 at 0 {b:999", 3, 13);
        viewFault("a u8 at 0 {b:1000-1};", 1, 13);
        viewFault("a u8 at 0 {b:7!8};", 1, 14);
        viewFault("a u8 at 0 {b:7-1000};", 1, 15);
        viewFault("a u8 at 0 {b:0-7,c:008-9};", 3, 19);
        viewFault("a u8 at 0 {b:7-7,c:007-007};", 0, -1);
        String[] kinds = {"u8", "s8", "u16", "s16", "u32", "s32", "s64"};
        int[] bits = {8, 8, 16, 16, 32, 32, 64};
        for (int k = 0; k < kinds.length; k++) {
            String head = "a " + kinds[k] + " at 0 {b:";
            int last = bits[k] - 1;
            int dash = head.length() + String.valueOf(last).length();
            viewFault(head + last + "-" + last + "};", 0, -1);
            viewFault(head + bits[k] + "-" + bits[k] + "};", 3, head.length());
            viewFault(head + bits[k] + "-0};", 3, head.length());
            viewFault(head + last + "-" + bits[k] + "};", 3, dash + 1);
            viewFault(head + last + "-" + (last - 1) + "};", 3, dash + 1);
        }
        viewFault("a u8 at 0 {b:3-2};", 3, 15);
        viewFault("a u8 at 0 {b:3-3};", 0, -1);
        viewFault("a u32 at 0 {b:0-31};", 0, -1);
        viewFault("a s64 at 0 {b:0-62,c:1-63};", 0, -1);
        viewFault("a s64 at 0 {b:0-63};", 3, 16);
        String eight = "a u8 at 0 {b:0-0,c:0-0,d:0-0,e:0-0,f:0-0,g:0-0,h:0-0,i:0-0";
        viewFault(eight + "};", 0, -1);
        viewFault(eight + ",j:0-0};", 4, eight.length() + 1);
        viewFault(eight + ",b:0-0};", 2, eight.length() + 1);
    }

    private static void script() {
        ByteViews x = Feeder.with("a u8 at 0 x 4; b s32 at 8 {lo:0-3,hi:28-31}; k u8 at 4 ro;");
        due("an empty script", Feeder.script(x, ""), 0);
        due("blanks", Feeder.script(x, " \n "), 0);
        due("two statements", Feeder.script(x, "a = 300; a[1] = a + 1;"), 2);
        bytes("two statements", x, 0, 44, 45, 0, 0);
        due("ifs count what is in them", Feeder.script(x, "if 0 a = 1; if 1 a[2] = 7; if 2 if 0 a = 9;"), 1);
        bytes("ifs", x, 0, 44, 45, 7, 0);
        due("groups count what is in them", Feeder.script(x, "(a=1;(a=2;)) () if 1 (a=3;a=4;)"), 4);
        due("an undone group", Feeder.script(x, "a=5; (a=6; a=7; fail;) a[3]=8;"), 2);
        bytes("an undone group", x, 0, 5, 45, 7, 8);
        due("fail ends it", Feeder.script(x, "a=1; fail; a=2;"), 1);
        bytes("fail ends it", x, 0, 1);
        due("fields", Feeder.script(x, "b = 0-1; b.lo = 16+5; b.hi = 2.9;"), 3);
        bytes("fields", x, 8, 0xf5, 0xff, 0xff, 0x2f);
        due("tape is empty", x.look(4), 0);
        due("a fault", Feeder.script(x, "a=77; a=;"), -1);
        bytes("a fault", x, 0, 1);
        due("the changes stay", x.changed(-1), 4);
        due("without a change", Feeder.script(x, "a=1;"), 1);
        due("no changes", x.changed(-1), 0);
    }

    private static void scriptFaults() {
        scriptFault("a=1;a[1]=2;b.lo=3;if a b=1;fail;", 0, -1);
        scriptFault("a = 1", 1, 5);
        scriptFault("a = 1 ", 1, 6);
        scriptFault("a = ;", 1, 4);
        scriptFault("a 1;", 1, 2);
        scriptFault("a[1 = 2;", 1, 4);
        scriptFault("a[] = 2;", 1, 2);
        scriptFault("a[1]] = 2;", 1, 4);
        scriptFault("; a=1;", 1, 0);
        scriptFault(") a=1;", 1, 0);
        scriptFault("if 1 ) a=1;", 1, 5);
        scriptFault("(if 1 ) a=1;", 1, 6);
        scriptFault("if 1", 1, 4);
        scriptFault("if 1 ;", 1, 5);
        scriptFault("if 1a=2;", 0, -1);
        scriptFault("if a=2;", 1, 4);
        scriptFault("if a (b=2;)", 0, -1);
        scriptFault("if (a) b=2;", 0, -1);
        scriptFault("fail", 1, 4);
        scriptFault("fails;", 2, 0);
        scriptFault("( a=1;", 1, 6);
        scriptFault("a = (1;", 1, 6);
        scriptFault("a = 1);", 1, 5);
        scriptFault("a = 1 < 2 < 3;", 1, 10);
        scriptFault("a = (1 < 2) < 3;", 0, -1);
        scriptFault("a = a[1 < 2] ~ a[2 > 1];", 0, -1);
        scriptFault("a = 1 + * 2;", 1, 8);
        scriptFault("a = + 2;", 1, 4);
        scriptFault("a = - - 2 - - - 1;", 0, -1);
        scriptFault("a = 123456789;", 0, -1);
        scriptFault("a = 1234567890;", 1, 4);
        scriptFault("a = 1.1234567890;", 1, 6);
        scriptFault("a = 1 . 5;", 0, -1);
        scriptFault("a = 1.;", 1, 6);
        scriptFault("a = .5;", 1, 4);
        scriptFault("a = 1.5.5;", 1, 7);
        scriptFault("a = big;", 1, 4);
        scriptFault("x = 1;", 1, 0);
        scriptFault("u8 = 1;", 1, 0);
        scriptFault("zz = 1;", 2, 0);
        scriptFault("a = zz;", 2, 4);
        scriptFault("abcdefg = 1;", 1, 0);
        scriptFault("b.zz = 1;", 2, 2);
        scriptFault("b . a = b.lo;", 0, -1);
        scriptFault("a.lo = 1;", 2, 2);
        scriptFault("f.lo = 1;", 2, 2);
        scriptFault("b.if = 1;", 1, 2);
        scriptFault("b.5 = 1;", 1, 2);
        scriptFault("b = b.zz;", 2, 6);
        scriptFault("a = zz +;", 2, 4);
        scriptFault("a = 1; # b = zz;", 1, 7);
        scriptFault("a=(((((1)))));", 0, -1);
        scriptFault("a=((((((1))))));", 5, 7);
        scriptFault("((((()))))", 0, -1);
        scriptFault("(((((())))))", 5, 5);
        scriptFault("(((a=((1));)))(((a=((1));)))", 0, -1);
        scriptFault("(((a=(((1)));)))", 5, 7);
        scriptFault("(((((a=(1);)))))", 5, 7);
        scriptFault("(((((a(=1;)))))", 1, 6);
        StringBuilder deep = new StringBuilder();
        for (int i = 0; i < 160; i++) {
            deep.append("a[");
        }
        deep.append("0");
        for (int i = 0; i < 160; i++) {
            deep.append("]");
        }
        scriptFault(deep + "=1;", 0, -1);
        StringBuilder ifs = new StringBuilder();
        for (int i = 0; i < 120; i++) {
            ifs.append("if 1");
        }
        scriptFault(ifs + "a=1;", 0, -1);
        StringBuilder minus = new StringBuilder("a=");
        for (int i = 0; i < 490; i++) {
            minus.append("-");
        }
        scriptFault(minus + "1;", 0, -1);
        scriptFault(minus + ";", 1, 492);
        // As many tokens as the tape has room for, and the most steps and open things they make.
        scriptFault("a=" + "-".repeat(496) + "1;", 0, -1);
        scriptFault("a=" + "-".repeat(497) + "1", 1, 500);
        scriptFault("()".repeat(250), 0, -1);
        scriptFault("a=" + "a+".repeat(248) + "a;", 0, -1);
        scriptFault("a=1;".repeat(125), 0, -1);
        scriptFault("if 1" + "if 1".repeat(123) + "a=1;", 0, -1);
        scriptFault("a[".repeat(250), 1, 500);
        ByteViews x = Feeder.with("a u8 at 0 x 4;");
        due("the last of a full tape is done", Feeder.script(x, "a=" + "-".repeat(496) + "7;"), 1);
        due("its answer", x.at(0), 7);
        due("the last group of a full tape", Feeder.script(x, "()".repeat(248) + "a=2;"), 1);
        due("its answer", x.at(0), 2);
        due("a long sum", Feeder.script(x, "a=" + "1+".repeat(248) + "1;"), 1);
        due("its answer", x.at(0), 249);
        x.poke(0, 1);
        due("deep elements", Feeder.script(x, "a[1]=" + "1-1*a[".repeat(60) + "0" + "]".repeat(60) + ";"), 1);
    }

    private static long value(String expression) {
        ByteViews x = Feeder.with("r s64 at 0; u u8 at 8 x 3; f f64 at 16; m s64 at 24; h f32 at 32;");
        x.write(3, 0, Long.MIN_VALUE);
        pokes(x, 8, 200, 100, 7);
        due("script of " + expression, Feeder.script(x, "r = " + expression + ";"), 1);
        return x.peek(0, 0);
    }

    private static long floatValue(String expression) {
        ByteViews x = Feeder.with("r f64 at 0; u u8 at 8 x 3; f f64 at 16; m s64 at 24; h f32 at 32;");
        pokes(x, 8, 200, 100, 7);
        due("script of " + expression, Feeder.script(x, "r = " + expression + ";"), 1);
        return x.peek(0, 0);
    }

    private static void scriptNumbers() {
        due("2+3*4", value("2+3*4"), 14);
        due("10-4-3", value("10-4-3"), 3);
        due("100/7/2", value("100/7/2"), 7);
        due("(2+3)*4", value("(2+3)*4"), 20);
        due("-7/2", value("-7/2"), -3);
        due("-7%3", value("-7%3"), -1);
        due("7%-3", value("7%-3"), 1);
        due("--5", value("--5"), 5);
        due("-2*-3", value("-2*-3"), 6);
        due("1+2<4", value("1+2<4"), 1);
        due("1+2>4", value("1+2>4"), 0);
        due("6~2*3", value("6~2*3"), 1);
        due("m-1 wraps", value("m-1"), Long.MAX_VALUE);
        due("-m wraps", value("-m"), Long.MIN_VALUE);
        due("m/-1 wraps", value("m/-1"), Long.MIN_VALUE);
        due("m%-1", value("m%-1"), 0);
        due("m*2 wraps", value("m*2"), 0);
        due("u + u[1]", value("u + u[1]"), 300);
        due("u[u[2]-6]", value("u[u[2]-6]"), 100);
        due("u[1.9]", value("u[1.9]"), 100);
        due("u[-0.9]", value("u[-0.9]"), 200);
        due("7/2.0 into a whole one", value("7/2.0"), 3);
        due("-7/2.0 into a whole one", value("-7/2.0"), -3);
        due("1.0/0 into a whole one", value("1.0/0"), Long.MAX_VALUE);
        due("0.0/0 into a whole one", value("0.0/0"), 0);
        due("1 ~ 1.0", value("1 ~ 1.0"), 1);
        due("0.0 ~ -0.0", value("0.0 ~ -0.0"), 1);
        due("0.0/0 ~ 0.0/0", value("0.0/0 ~ 0.0/0"), 0);
        due("7/2.0", floatValue("7/2.0"), bits(3.5));
        due("0.1+0.2", floatValue("0.1+0.2"), bits(0.1 + 0.2));
        due("7.5%2", floatValue("7.5%2"), bits(1.5));
        due("1%0.0", floatValue("1%0.0"), NAN);
        due("-0.0", floatValue("-0.0"), bits(-0.0));
        due("1.05", floatValue("1.05"), bits(1.05));
        due("3.000000001", floatValue("3.000000001"), bits(3 + 1 / 1e9));
        due("999999999.999999999", floatValue("999999999.999999999"), bits(999999999 + 999999999 / 1e9));
        due("a whole one", floatValue("u*2"), bits(400));
        due("1/3 of wholes", floatValue("1/3"), 0);
    }

    private static void scriptOrder() {
        String views = "a u8 at 0 x 2; c u8 at 8 x 4 reads; k u8 at 12 ro;";
        ByteViews x = Feeder.with(views);
        pokes(x, 8, 1, 2, 3, 4);
        due("left is read ahead of right", Feeder.script(x, "a[c] = c + c[1]*10;"), 1);
        bytes("left is read ahead of right", x, 0, 0, 20);
        bytes("what was read", x, 8, 0, 0, 3, 4);
        due("an element that there is not, ahead of the rest", Feeder.script(x, "a[2] = 1/0;"), 0);
        due("it is trouble 1", x.trouble(0), 1);
        due("the rest ahead of ro", Feeder.script(x, "k = 1/0;"), 0);
        due("it is trouble 2", x.trouble(0), 2);
        due("ro", Feeder.script(x, "k = c[2];"), 0);
        due("it is trouble 3", x.trouble(0), 3);
        bytes("the reading is undone", x, 10, 3);
        due("no changes", x.changed(-1), 0);
        due("element of ro", Feeder.script(x, "k[1] = 1;"), 0);
        due("it is trouble 1 as well", x.trouble(0), 1);
        due("an if that isn't done reads", Feeder.script(x, "if c[2] ~ 0 a = 1;"), 0);
        bytes("an if that isn't done reads", x, 10, 0);
        due("below 0", Feeder.script(x, "a[-1] = 1;"), 0);
        due("below 0 is trouble 1", x.trouble(0), 1);
        due("far", Feeder.script(x, "a[4294967296 / 1] = 1;"), -1);
        due("far by a product", Feeder.script(x, "a[65536*65536] = 1;"), 0);
        due("far is trouble 1", x.trouble(0), 1);
        due("NaN is element 0", Feeder.script(x, "a[0.0/0] = 33;"), 1);
        bytes("NaN is element 0", x, 0, 33);
        due("read an element that there is not", Feeder.script(x, "a = 1; a = a[2]; a = 3;"), 1);
        bytes("what was done ahead stays", x, 0, 1);
        due("% by 0", Feeder.script(x, "a = 5 % (1 - 1);"), 0);
        due("% by 0 is trouble 2", x.trouble(0), 2);
        due("NaN isn't 0", Feeder.script(x, "if 0.0/0 a = 7; if -0.0 a = 8; if 0.1 a[1] = 9;"), 2);
        bytes("NaN isn't 0", x, 0, 7, 9);
    }

    private static void scriptGroups() {
        ByteViews x = Feeder.with("a u8 at 0 x 8; c u8 at 8 reads; k u8 at 12 ro;");
        due("groups within groups", Feeder.script(x, "(a=1; (a[1]=2; fail;) (a[2]=3;)) a[3]=4;"), 3);
        bytes("groups within groups", x, 0, 1, 0, 3, 4);
        due("an outer one undoes an inner one", Feeder.script(x, "((a=9;) (a[1]=9;) k=1;) a[3]=5;"), 1);
        bytes("an outer one undoes an inner one", x, 0, 1, 0, 3, 5);
        due("one trouble", x.trouble(-1), 1);
        x.poke(8, 77);
        due("reading is undone", Feeder.script(x, "(a = c; fail;) a[1] = c;"), 1);
        bytes("reading is undone", x, 0, 1, 77);
        bytes("and done behind it", x, 8, 0);
        due("an if round a group", Feeder.script(x, "if 1 (a=5; fail;) a[4]=6;"), 1);
        bytes("an if round a group", x, 0, 1);
        bytes("an if round a group", x, 4, 6);
        x.poke(8, 5);
        due("an if reads ahead of its group", Feeder.script(x, "if c (fail;) a[5]=7;"), 1);
        bytes("the reading stays", x, 8, 0);
        x.poke(8, 5);
        due("an if without a group", Feeder.script(x, "if c fail; a[5]=8;"), 0);
        bytes("all of it is undone", x, 8, 5);
        due("an if within a group", Feeder.script(x, "(a[6]=1; if 1 if 1 fail; a[6]=2;) a[7]=3;"), 1);
        bytes("an if within a group", x, 6, 0, 3);
        due("five groups", Feeder.script(x, "(a=11;(a=12;(a=13;(a=14;(a=15;fail;)fail;))fail;)a[1]=16;)"), 2);
        bytes("five groups", x, 0, 11, 16);
        due("three troubles", x.trouble(-1), 3);
        due("an empty group", Feeder.script(x, "()a=1;(fail;)()"), 1);
    }

    private static void scriptAccess() {
        ByteViews x = Feeder.with("o u8 at 0 ones {lo:0-3,hi:4-7}; r u16 at 2 reads {lo:0-3,hi:4-15};"
            + "g f32 at 4 ones; q s8 at 8; w u16 big at 10;");
        x.poke(0, 0xff);
        due("ones", Feeder.script(x, "o = 5;"), 1);
        bytes("ones", x, 0, 0xfa);
        due("a field of ones", Feeder.script(x, "o.lo = 0;"), 1);
        bytes("the other bits are written as they are", x, 0, 0x0a);
        pokes(x, 2, 0x34, 0x12);
        due("writing a field doesn't read", Feeder.script(x, "r.lo = 1;"), 1);
        bytes("writing a field doesn't read", x, 2, 0x31, 0x12);
        due("reading a field clears all", Feeder.script(x, "q = r.lo;"), 1);
        bytes("reading a field clears all", x, 2, 0, 0);
        bytes("the field", x, 8, 1);
        pokes(x, 4, 0xff, 0xff, 0xff, 0xff);
        due("ones of a float", Feeder.script(x, "g = 1;"), 1);
        bytes("ones of a float", x, 4, 0xff, 0xff, 0x7f, 0xc0);
        due("cut to its bytes", Feeder.script(x, "q = 200; w = 65536 + 258; q = q + 0;"), 3);
        bytes("cut to its bytes", x, 8, 200);
        bytes("big", x, 10, 1, 2);
        due("a float into a field", Feeder.script(x, "r.hi = -1.5;"), 1);
        bytes("a float into a field", x, 2, 0xf0, 0xff);
    }

    private static void fault() {
        ByteViews x = new ByteViews();
        due("fault(0) at first", x.fault(0), 0);
        due("fault(1) at first", x.fault(1), -1);
        Feeder.views(x, "a u8 at 99;");
        due("fault(0)", x.fault(0), 3);
        due("fault(1)", x.fault(1), 8);
        due("fault(2)", x.fault(2), -1);
        due("fault(-1)", x.fault(-1), -1);
        Feeder.named(x, "a");
        x.memory(10);
        due("it stays", x.fault(0), 3);
        Feeder.script(x, "zz=1;");
        due("of the script", x.fault(0), 2);
        x.views();
        due("without one", x.fault(0), 0);
        due("its place", x.fault(1), -1);
    }

    private static void trouble() {
        ByteViews x = Feeder.with("a u8 at 0 x 2; k u8 at 3 ro;");
        due("none at first", x.trouble(-1), 0);
        due("trouble(0) at first", x.trouble(0), -1);
        Feeder.script(x, "(a[2]=1;)(a=1/0;)(k=1;)(fail;) a=1; fail; fail;");
        due("how many came", x.trouble(-1), 5);
        for (int i = 0; i < 4; i++) {
            due("trouble(" + i + ")", x.trouble(i), i + 1);
        }
        due("trouble(4)", x.trouble(4), 4);
        due("trouble(5)", x.trouble(5), -1);
        due("trouble(-2)", x.trouble(-2), -1);
        Feeder.script(x, "a=;");
        due("a fault leaves them", x.trouble(-1), 5);
        Feeder.script(x, "(fail;)".repeat(19) + "(a[9]=1;)" + "(k=1;)");
        due("21 came", x.trouble(-1), 21);
        due("trouble(19)", x.trouble(19), 1);
        due("trouble(20) isn't kept", x.trouble(20), -1);
        Feeder.script(x, "");
        due("none by an empty script", x.trouble(-1), 0);
        Feeder.script(x, "((fail;) fail;)");
        due("those of undone groups too", x.trouble(-1), 2);
    }

    private static void view() {
        ByteViews x = Feeder.with("a u8 at 3; b s16 big at 4 x 5 by 6 reads {p:0-1,q:2-3}; c f64 at 0 x 1 by 3 ro;"
            + "d s64 at 0 x 2 ones;");
        int[][] want = {{0, 0, 3, 1, 1, 0, 0}, {3, 1, 4, 5, 6, 3, 2}, {8, 0, 0, 1, 3, 1, 0}, {6, 0, 0, 2, 8, 2, 0}};
        for (int v = 0; v < 4; v++) {
            for (int what = 0; what < 7; what++) {
                due("view(" + v + ", " + what + ")", x.view(v, what), want[v][what]);
            }
        }
        due("view(0, 7)", x.view(0, 7), -1);
        due("view(0, -1)", x.view(0, -1), -1);
        due("view(4, 0)", x.view(4, 0), -1);
        due("view(-1, 0)", x.view(-1, 0), -1);
        due("view(16, 0)", x.view(16, 0), -1);
        String kinds = "a u8 at 0;b s8 at 0;c u16 at 0;d s16 at 0;e u32 at 0;f s32 at 0;g s64 at 0;h f32 at 0;i f64 at 0;";
        int[] bytes = {1, 1, 2, 2, 4, 4, 8, 4, 8};
        ByteViews y = Feeder.with(kinds);
        for (int v = 0; v < 9; v++) {
            due("kind " + v, y.view(v, 0), v);
            due("stride of kind " + v, y.view(v, 4), bytes[v]);
        }
    }

    private static void named() {
        ByteViews x = Feeder.with("a u8 at 0; abcdef u8 at 0; b2 u8 at 0 {q:0-1};");
        due("a", Feeder.named(x, "a"), 0);
        due("tape is empty", x.look(4), 0);
        due("abcdef", Feeder.named(x, " \nabcdef\n "), 1);
        due("b2", Feeder.named(x, "b2"), 2);
        due("a field's", Feeder.named(x, "q"), -1);
        due("a longer one", Feeder.named(x, "abcdefg"), -1);
        due("a shorter one", Feeder.named(x, "abcde"), -1);
        due("two", Feeder.named(x, "a a"), -1);
        due("one in two", Feeder.named(x, "b 2"), -1);
        due("with a sign", Feeder.named(x, "a;"), -1);
        due("nothing", Feeder.named(x, ""), -1);
        due("a word", Feeder.named(x, "u8"), -1);
        due("tape is empty then too", x.look(4), 0);
    }

    private static void read() {
        ByteViews x = Feeder.with("a u8 at 0; b s8 at 0; c u16 at 0; d s16 big at 0; e u32 at 0; f s32 big at 0;"
            + "g s64 at 0; h f32 at 0; i f64 big at 0; r u16 at 0 x 2 by 2 reads; j f64 at 8; m u8 at 8 x 8;");
        pokes(x, 0, 0xf1, 0xe2, 0xd3, 0xc4, 0xb5, 0xa6, 0x97, 0x88);
        due("u8", x.read(0, 0), 0xf1);
        due("s8", x.read(1, 0), (byte) 0xf1);
        due("u16", x.read(2, 0), 0xe2f1);
        due("s16 big", x.read(3, 0), (short) 0xf1e2);
        due("u32", x.read(4, 0), 0xc4d3e2f1L);
        due("s32 big", x.read(5, 0), 0xf1e2d3c4);
        due("s64", x.read(6, 0), 0x8897a6b5c4d3e2f1L);
        due("f32 is an int", x.read(7, 0), 0xc4d3e2f1);
        due("f64 big", x.read(8, 0), 0xf1e2d3c4b5a69788L);
        due("no changes", x.changed(-1), 0);
        due("reads", x.read(9, 1), 0xc4d3);
        due("two changes", x.changed(-1), 2);
        bytes("reads clears it", x, 0, 0xf1, 0xe2, 0, 0, 0xb5);
        due("read(9, 2)", x.read(9, 2), NO_ELEMENT);
        due("read(9, -1)", x.read(9, -1), NO_ELEMENT);
        due("read(12, 0)", x.read(12, 0), NO_ELEMENT);
        due("read(-1, 0)", x.read(-1, 0), NO_ELEMENT);
        due("refused: changes stay", x.changed(-1), 2);
        due("history", x.look(3), 8);
        pokes(x, 8, 1, 2, 3, 4, 5, 6, 0xf7, 0xff);
        due("NaN of f64", x.read(10, 0), NAN);
        pokes(x, 0, 1, 0, 0xa0, 0xff);
        due("NaN of f32", x.read(7, 0), 0x7fc00000);
        bytes("bytes of NaN stay", x, 0, 1, 0, 0xa0, 0xff);
        pokes(x, 0, 0, 0, 0, 0x80);
        due("-0.0 of f32", x.read(7, 0), -2147483648L);
    }

    private static void peek() {
        ByteViews x = Feeder.with("r u8 at 0 reads; f f32 at 4;");
        x.poke(0, 7);
        due("peek", x.peek(0, 0), 7);
        due("again", x.peek(0, 0), 7);
        due("changes stay", x.changed(-1), 1);
        x.write(1, 0, -2);
        due("peek of f32", x.peek(1, 0), Float.floatToIntBits(-2f));
        due("peek(0, 1)", x.peek(0, 1), NO_ELEMENT);
        due("peek(2, 0)", x.peek(2, 0), NO_ELEMENT);
        due("peek(-1, 0)", x.peek(-1, 0), NO_ELEMENT);
        due("peek(0, -1)", x.peek(0, -1), NO_ELEMENT);
    }

    private static void field() {
        ByteViews x = Feeder.with("r s16 big at 0 x 2 reads {lo:0-3,mid:4-11,top:15-15,all:0-15}; s s64 at 8 {b:1-63};");
        pokes(x, 0, 0xab, 0xcd, 0x12, 0x34);
        due("lo", x.field(0, 0, 0), 0xd);
        due("mid", x.field(0, 0, 1), 0xbc);
        due("top", x.field(0, 0, 2), 1);
        due("all is never below 0", x.field(0, 0, 3), 0xabcd);
        due("of element 1", x.field(0, 1, 1), 0x23);
        bytes("nothing is cleared", x, 0, 0xab, 0xcd);
        x.write(1, 0, -1);
        due("63 bits", x.field(1, 0, 0), Long.MAX_VALUE);
        due("field(0, 0, 4)", x.field(0, 0, 4), -1);
        due("field(0, 0, -1)", x.field(0, 0, -1), -1);
        due("field(0, 2, 0)", x.field(0, 2, 0), -1);
        due("field(0, -1, 0)", x.field(0, -1, 0), -1);
        due("field(2, 0, 0)", x.field(2, 0, 0), -1);
    }

    private static void write() {
        ByteViews x = Feeder.with("a u8 at 0 x 2; b s32 big at 4; k u8 at 0 ro; o u16 at 8 ones; r u8 at 10 reads;"
            + "f f32 at 12; d f64 big at 16;");
        due("write", x.write(0, 1, 0x1ff), true);
        bytes("write", x, 0, 0, 255);
        due("seen by all", x.write(1, 0, -2), true);
        bytes("big", x, 4, 255, 255, 255, 254);
        due("ro", x.write(2, 0, 1), false);
        due("write(0, 2)", x.write(0, 2, 1), false);
        due("write(0, -1)", x.write(0, -1, 1), false);
        due("write(7, 0)", x.write(7, 0, 1), false);
        due("write(-1, 0)", x.write(-1, 0, 1), false);
        due("refused: changes stay", x.changed(-1), 4);
        pokes(x, 8, 0xff, 0x0f);
        due("ones", x.write(3, 0, 0x1234), true);
        bytes("ones", x, 8, 0xcb, 0x0d);
        due("reads", x.write(4, 0, 9), true);
        bytes("reads", x, 10, 9);
        due("f32", x.write(5, 0, 16777217), true);
        due("f32 is rounded", x.peek(5, 0), Float.floatToIntBits(16777216f));
        due("f64", x.write(6, 0, Long.MAX_VALUE), true);
        due("f64 is rounded", x.peek(6, 0), bits(9223372036854775807.0));
        bytes("f64 big", x, 16, 0x43, 0xe0);
        due("rounded once", x.write(5, 0, (1L << 54) + (1L << 30) + 1), true);
        due("not twice", x.peek(5, 0), Float.floatToIntBits((float) ((1L << 54) + (1L << 30) + 1)));
    }

    private static void writeFloat() {
        ByteViews x = Feeder.with("a u8 at 0; b s64 at 8; f f32 at 16; d f64 at 24; k f64 at 24 ro; o f64 at 32 ones;");
        due("into u8", x.writeFloat(0, 0, bits(-1.5)), true);
        bytes("into u8", x, 0, 255);
        x.writeFloat(0, 0, bits(300.99));
        bytes("lowest byte", x, 0, 44);
        x.writeFloat(1, 0, bits(1e30));
        due("too large a one", x.peek(1, 0), Long.MAX_VALUE);
        x.writeFloat(1, 0, bits(-1e30));
        due("too small a one", x.peek(1, 0), Long.MIN_VALUE);
        x.writeFloat(1, 0, NAN);
        due("NaN", x.peek(1, 0), 0);
        x.writeFloat(2, 0, bits(0.1));
        due("into f32", x.peek(2, 0), Float.floatToIntBits(0.1f));
        x.writeFloat(2, 0, bits(1e39));
        due("infinite", x.peek(2, 0), Float.floatToIntBits(Float.POSITIVE_INFINITY));
        x.writeFloat(2, 0, bits(-1e-45));
        due("least of f32", x.peek(2, 0), Float.floatToIntBits(-1e-45f));
        x.writeFloat(3, 0, bits(-0.0));
        due("-0.0", x.peek(3, 0), bits(-0.0));
        x.writeFloat(3, 0, 0xfff0000000000123L);
        bytes("NaN is the one NaN", x, 24, 0, 0, 0, 0, 0, 0, 0xf8, 0x7f);
        due("ro", x.writeFloat(4, 0, 0), false);
        due("writeFloat(0, 1)", x.writeFloat(0, 1, 0), false);
        due("writeFloat(6, 0)", x.writeFloat(6, 0, 0), false);
        due("writeFloat(-1, 0)", x.writeFloat(-1, 0, 0), false);
        pokes(x, 32, 255, 255, 255, 255, 255, 255, 255, 255);
        due("ones", x.writeFloat(5, 0, bits(1)), true);
        bytes("ones", x, 38, 0x0f, 0xc0);
    }

    private static void at() {
        ByteViews x = new ByteViews();
        x.poke(0, 200);
        due("at(0)", x.at(0), 200);
        due("at(63)", x.at(63), 0);
        due("at(64)", x.at(64), -1);
        due("at(-1)", x.at(-1), -1);
        due("at(MAX)", x.at(Integer.MAX_VALUE), -1);
        due("at(MIN)", x.at(Integer.MIN_VALUE), -1);
    }

    private static void poke() {
        ByteViews x = Feeder.with("k u8 at 5 ro; o u8 at 6 ones;");
        due("poke of ro", x.poke(5, 0x1fe), true);
        due("cut", x.at(5), 0xfe);
        due("poke of ones", x.poke(6, -1), true);
        due("as it is", x.at(6), 255);
        due("poke(64)", x.poke(64, 1), false);
        due("poke(-1)", x.poke(-1, 1), false);
        due("refused: changes stay", x.changed(0), 6);
        due("the same again", x.poke(6, 255), true);
        due("no changes", x.changed(-1), 0);
        due("no history", x.look(3), 2);
    }

    private static void changed() {
        ByteViews x = Feeder.with("a u32 at 8; b u8 at 20 x 3 by 5;");
        x.write(0, 0, 0xff0000ffL);
        due("how many", x.changed(-1), 2);
        due("changed(0)", x.changed(0), 8);
        due("changed(1)", x.changed(1), 11);
        due("changed(2)", x.changed(2), -1);
        due("changed(-2)", x.changed(-2), -1);
        x.fill(1, 1);
        due("rising", x.changed(2), 30);
        Feeder.script(x, "b=;");
        x.write(5, 0, 0);
        x.sort(7);
        x.roll(1, 65);
        x.copy(0, 9);
        x.fill(9, 1);
        x.turn(9);
        x.read(0, 1);
        x.writeFloat(0, 1, 0);
        x.memory(0);
        due("refused calls leave it", x.changed(-1), 3);
        x.read(0, 0);
        due("a read that changes nothing", x.changed(-1), 0);
        Feeder.script(x, "b = 9; b = 1;");
        due("back as it was", x.changed(-1), 0);
        due("no history", x.look(3), 2);
        Feeder.script(x, "b = 9;");
        Feeder.views(x, "a u8 at 20;");
        due("views() leaves it", x.changed(0), 20);
        x.undo();
        due("of the undoing", x.changed(-1), 1);
        x.memory(64);
        due("none behind memory()", x.changed(-1), 0);
    }

    private static void seen() {
        ByteViews x = Feeder.with("a u16 at 0 x 4; b u32 at 0 x 8 by 1; c u8 at 9 x 3;");
        x.poke(4, 1);
        due("how many", x.seen(0, -1), 1);
        due("which", x.seen(0, 0), 2);
        due("in one another", x.seen(1, -1), 4);
        due("the first", x.seen(1, 0), 1);
        due("the last", x.seen(1, 3), 4);
        due("seen(1, 4)", x.seen(1, 4), -1);
        due("seen(1, -2)", x.seen(1, -2), -1);
        due("none", x.seen(2, -1), 0);
        due("seen(2, 0)", x.seen(2, 0), -1);
        due("seen(3, -1)", x.seen(3, -1), -1);
        due("seen(-1, -1)", x.seen(-1, -1), -1);
    }

    private static void over() {
        ByteViews x = Feeder.with("a u16 at 0 x 4 by 3; b u8 at 2 x 4 by 3; c u32 at 0 x 4 by 1; d s64 at 4;");
        due("between", x.over(0, 1), 0);
        due("a, c", x.over(0, 2), 5);
        due("c, a", x.over(2, 0), 5);
        due("a byte counts once", x.over(2, 2), 7);
        due("c, d", x.over(2, 3), 3);
        due("over(4, 0)", x.over(4, 0), -1);
        due("over(0, 4)", x.over(0, 4), -1);
        due("over(-1, 0)", x.over(-1, 0), -1);
    }

    private static void here() {
        ByteViews x = Feeder.with("a u16 at 0 x 4 by 3; b u8 at 2 x 4 by 3; c u32 at 0 x 4 by 1;");
        due("here(0)", x.here(0), 5);
        due("here(2)", x.here(2), 6);
        due("here(10)", x.here(10), 1);
        due("here(12)", x.here(12), 0);
        due("here(64)", x.here(64), -1);
        due("here(-1)", x.here(-1), -1);
        StringBuilder many = new StringBuilder();
        for (char c = 'a'; c < 'a' + 16; c++) {
            many.append(c).append(" u8 at 0;");
        }
        Feeder.views(x, many.toString());
        due("all sixteen", x.here(0), 65535);
    }

    private static void copy() {
        ByteViews x = Feeder.with("a s8 at 0 x 4; b s16 big at 8 x 3; f f32 at 16 x 2; k u8 at 0 ro; o u8 at 24 x 4 ones;"
            + "r u8 at 28 x 2 reads; s u8 at 32 x 4; t u8 at 33 x 4;");
        pokes(x, 0, 255, 2, 3, 4);
        due("as many as both have", x.copy(0, 1), 3);
        bytes("converted", x, 8, 255, 255, 0, 2, 0, 3, 0);
        due("into floats", x.copy(0, 2), 2);
        due("-1.0f", x.peek(2, 0), Float.floatToIntBits(-1f));
        x.writeFloat(2, 1, bits(300.7));
        due("from floats", x.copy(2, 0), 2);
        bytes("from floats", x, 0, 255, 44, 3, 4);
        due("to ro", x.copy(0, 3), -1);
        due("from ro", x.copy(3, 0), 1);
        pokes(x, 24, 255, 255, 255, 255);
        due("to ones", x.copy(0, 4), 4);
        bytes("to ones", x, 24, 0, 255 - 44, 252, 251);
        x.poke(28, 9);
        due("from reads", x.copy(5, 0), 2);
        bytes("it isn't cleared", x, 28, 9, 0);
        bytes("from reads", x, 0, 9, 0, 3, 4);
        pokes(x, 32, 1, 2, 3, 4, 5);
        due("over one another", x.copy(6, 7), 4);
        bytes("each as it is then", x, 32, 1, 1, 1, 1, 1);
        due("copy(8, 0)", x.copy(8, 0), -1);
        due("copy(0, 8)", x.copy(0, 8), -1);
        due("copy(-1, 0)", x.copy(-1, 0), -1);
        due("onto itself", x.copy(0, 0), 4);
        pokes(x, 16, 1, 0, 0xa0, 0xff);
        due("NaN onto itself", x.copy(2, 2), 2);
        bytes("NaN is the one NaN", x, 16, 0, 0, 0xc0, 0x7f);
    }

    private static void turn() {
        ByteViews x = Feeder.with("a u16 at 0 x 2; k u16 at 0 ro; o u32 big at 8 ones; l u16 at 16 x 3 by 1; f f32 at 24;");
        pokes(x, 0, 1, 2, 3, 4);
        due("turn", x.turn(0), true);
        due("it is big", x.view(0, 1), 1);
        bytes("turned", x, 0, 2, 1, 4, 3);
        due("its value", x.peek(0, 0), 0x0201);
        due("turn back", x.turn(0), true);
        due("it isn't big", x.view(0, 1), 0);
        bytes("turned back", x, 0, 1, 2, 3, 4);
        due("ro", x.turn(1), false);
        due("ro stays", x.view(1, 1), 0);
        pokes(x, 8, 1, 2, 3, 4);
        due("ones", x.turn(2), true);
        bytes("whatever access", x, 8, 4, 3, 2, 1);
        pokes(x, 16, 1, 2, 3, 4);
        due("in one another", x.turn(3), true);
        bytes("later ones over earlier ones", x, 16, 2, 3, 4, 3);
        pokes(x, 24, 1, 0, 0xa0, 0xff);
        due("a NaN", x.turn(4), true);
        bytes("bit by bit", x, 24, 0xff, 0xa0, 0, 1);
        due("undo", x.undo(), true);
        due("stays turned", x.view(4, 1), 1);
        bytes("memory is undone", x, 24, 1, 0, 0xa0, 0xff);
        due("turn(5)", x.turn(5), false);
        due("turn(-1)", x.turn(-1), false);
    }

    private static void sort() {
        ByteViews x = Feeder.with("a s8 at 0 x 5; u u8 at 0 x 5; k u8 at 0 ro; o u8 at 0 ones; r u8 at 0 reads;"
            + "l u16 at 0 x 3 by 1; f f32 at 16 x 6; g s16 big at 40 x 3 by 3; i u16 at 60 x 1 by 1;");
        pokes(x, 0, 3, 255, 0, 128, 127);
        due("signed", x.sort(0), true);
        bytes("signed", x, 0, 128, 255, 0, 3, 127);
        due("unsigned", x.sort(1), true);
        bytes("unsigned", x, 0, 0, 3, 127, 128, 255);
        due("ro", x.sort(2), false);
        due("ones", x.sort(3), false);
        due("reads", x.sort(4), false);
        due("in one another", x.sort(5), false);
        due("one with a low stride", x.sort(8), false);
        due("sort(9)", x.sort(9), false);
        due("sort(-1)", x.sort(-1), false);
        pokes(x, 16, 1, 0, 0xa0, 0xff);
        x.writeFloat(6, 1, bits(0.0));
        x.writeFloat(6, 2, bits(-0.0));
        x.writeFloat(6, 3, bits(-1.0));
        x.writeFloat(6, 4, bits(Double.POSITIVE_INFINITY));
        x.writeFloat(6, 5, bits(Double.NEGATIVE_INFINITY));
        due("floats", x.sort(6), true);
        float[] want = {Float.NEGATIVE_INFINITY, -1f, -0f, 0f, Float.POSITIVE_INFINITY, Float.NaN};
        for (int i = 0; i < 6; i++) {
            due("float " + i, x.peek(6, i), Float.floatToIntBits(want[i]));
        }
        bytes("NaN is written as the one NaN", x, 36, 0, 0, 0xc0, 0x7f);
        pokes(x, 40, 0, 5, 77, 0xff, 0xff, 78, 0, 1, 79);
        due("strides", x.sort(7), true);
        bytes("between stays", x, 40, 0xff, 0xff, 77, 0, 1, 78, 0, 5, 79);
        x.sort(7);
        due("no changes", x.changed(-1), 0);
    }

    private static void fill() {
        ByteViews x = Feeder.with("a u16 big at 0 x 3 by 3; k u8 at 0 ro; o u8 at 20 x 2 ones; f f64 at 32 x 2; l u16 at 50 x 3 by 1;");
        due("fill", x.fill(0, 0x10203), 3);
        bytes("fill", x, 0, 2, 3, 0, 2, 3, 0, 2, 3, 0);
        due("ro", x.fill(1, 0), -1);
        pokes(x, 20, 7, 8);
        due("ones", x.fill(2, 10), 2);
        bytes("ones", x, 20, 5, 0);
        due("floats", x.fill(3, -3), 2);
        due("float 1", x.peek(3, 1), bits(-3));
        due("in one another", x.fill(4, 0x102), 3);
        bytes("later ones over earlier ones", x, 50, 2, 2, 2, 1);
        due("fill(5)", x.fill(5, 0), -1);
        due("fill(-1)", x.fill(-1, 0), -1);
    }

    private static void roll() {
        ByteViews x = Feeder.with("a u8 at 0 x 4; k u8 at 0 x 2 ro; o u8 at 8 x 3 ones; f f32 at 16 x 2; l u16 at 32 x 3 by 1;"
            + "r u8 at 40 x 2 reads;");
        pokes(x, 0, 1, 2, 3, 4);
        due("roll 1", x.roll(0, 1), true);
        bytes("roll 1", x, 0, 2, 3, 4, 1);
        due("roll 6", x.roll(0, 6), true);
        bytes("roll 6", x, 0, 4, 1, 2, 3);
        due("roll 64", x.roll(0, 64), true);
        due("round", x.changed(-1), 0);
        due("roll 65", x.roll(0, 65), false);
        due("roll -1", x.roll(0, -1), false);
        due("roll 0", x.roll(0, 0), true);
        due("ro", x.roll(1, 1), false);
        pokes(x, 8, 1, 2, 3);
        due("ones", x.roll(2, 1), true);
        bytes("whatever access", x, 8, 2, 3, 1);
        pokes(x, 16, 1, 0, 0xa0, 0xff);
        due("a NaN", x.roll(3, 1), true);
        bytes("bit by bit", x, 20, 1, 0, 0xa0, 0xff);
        pokes(x, 32, 1, 2, 3, 4);
        due("in one another", x.roll(4, 1), true);
        bytes("all read ahead", x, 32, 2, 3, 1, 2);
        x.poke(40, 9);
        due("reads", x.roll(5, 1), true);
        bytes("reads isn't cleared", x, 40, 0, 9);
        due("roll(6)", x.roll(6, 1), false);
        due("roll(-1)", x.roll(-1, 1), false);
    }

    private static void show() {
        ByteViews x = Feeder.with("a u8 at 0 x 1; abcdef s16 big at 007 x 3 ro; c f64 at 0 x 1 by 3; d u32 at 10 x 2 by 4 ones"
            + "{ p : 00 - 31 , q:1-1 }; e s64 big at 20 x 12 by 2 reads {z:0-62};");
        String[] want = {"a u8 at 0", "abcdef s16 big at 7 x 3 ro", "c f64 at 0 x 1 by 3",
            "d u32 at 10 x 2 ones{p:0-31,q:1-1}", "e s64 big at 20 x 12 by 2 reads{z:0-62}"};
        for (int v = 0; v < want.length; v++) {
            due("length of " + want[v], x.show(v), want[v].length());
            Feeder.due("show(" + v + ")", Feeder.shown(x, v), want[v]);
        }
        x.turn(4);
        Feeder.due("turned", Feeder.shown(x, 4), "e s64 at 20 x 12 by 2 reads{z:0-62}");
        due("show(5)", x.show(5), -1);
        due("show(-1)", x.show(-1), -1);
        x.memory(256);
        Feeder.views(x, "abcdef u32 big at 252 x 1 by 64 reads{abcdef:10-31,bbcdef:10-31,cbcdef:10-31,dbcdef:10-31,"
            + "ebcdef:10-31,fbcdef:10-31,gbcdef:10-31,hbcdef:10-31};");
        due("a long one", x.show(0), 37 + 8 * 13 + 1);
        due("its last sign", x.out(37 + 8 * 13), '}');
    }

    private static void out() {
        ByteViews x = Feeder.with("a u8 at 0; longer u8 at 0;");
        due("out(0) at first", x.out(0), -1);
        x.show(1);
        due("out(0)", x.out(0), 'l');
        due("out(13)", x.out(13), '0');
        due("out(14)", x.out(14), -1);
        due("out(-1)", x.out(-1), -1);
        x.show(9);
        x.memory(64);
        due("it stays", x.out(1), 'o');
        Feeder.views(x, "a u8 at 0;");
        x.show(0);
        due("a shorter one", x.out(8), '0');
        due("behind a shorter one", x.out(9), -1);
    }

    private static void find() {
        ByteViews x = Feeder.with("a s8 at 0 x 4; u u8 at 0 x 4; f f64 at 8 x 4; r u8 at 0 x 4 reads;");
        pokes(x, 0, 255, 7, 255, 0);
        due("find", x.find(0, 0, -1), 0);
        due("from 1 on", x.find(0, 1, -1), 2);
        due("from 3 on", x.find(0, 3, -1), -1);
        due("from the end on", x.find(0, 4, 0), -1);
        due("from behind on", x.find(0, 5, 0), -1);
        due("from ahead on", x.find(0, -1, 0), -1);
        due("unsigned", x.find(1, 0, -1), -1);
        due("255", x.find(1, 0, 255), 0);
        due("not cut", x.find(1, 0, 263), -1);
        x.writeFloat(2, 0, NAN);
        x.writeFloat(2, 1, bits(-0.0));
        x.writeFloat(2, 2, bits(2.5));
        x.writeFloat(2, 3, bits(9007199254740992.0));
        due("-0.0 is alike 0", x.find(2, 0, 0), 1);
        due("2.5 isn't alike 2", x.find(2, 0, 2), -1);
        due("as doubles", x.find(2, 0, 9007199254740993L), 3);
        due("reads", x.find(3, 0, 7), 1);
        due("reads isn't cleared", x.find(3, 0, 7), 1);
        due("find(4)", x.find(4, 0, 0), -1);
        due("find(-1)", x.find(-1, 0, 0), -1);
    }

    private static void sum() {
        ByteViews x = Feeder.with("a s8 at 0 x 3; m s64 at 8 x 2; f f32 at 24 x 3; r u8 at 0 x 3 reads; d f64 at 40 x 2;");
        pokes(x, 0, 255, 254, 10);
        due("signed", x.sum(0), 7);
        due("unsigned", x.sum(3), 519);
        due("again", x.sum(3), 519);
        x.fill(1, Long.MAX_VALUE);
        due("wraps", x.sum(1), -2);
        x.writeFloat(2, 0, bits(0.1));
        x.writeFloat(2, 1, bits(0.2));
        x.writeFloat(2, 2, bits(1e10));
        due("floats", x.sum(2), bits((double) 0.1f + (double) 0.2f + (double) 1e10f));
        x.writeFloat(4, 0, bits(Double.POSITIVE_INFINITY));
        x.writeFloat(4, 1, bits(Double.NEGATIVE_INFINITY));
        due("NaN", x.sum(4), NAN);
        due("sum(5)", x.sum(5), -1);
        due("sum(-1)", x.sum(-1), -1);
    }

    private static void rest() {
        ByteViews x = Feeder.with("a u8 at 0; f f32 at 4 x 2; d f64 at 16;");
        x.writeFloat(1, 1, bits(-7.5));
        x.writeFloat(2, 0, bits(1e300));
        due("of f32", x.rest(1, 1, 2), bits(-1.5));
        due("by one below 0", x.rest(1, 1, -2), bits(-1.5));
        due("of f64", x.rest(2, 0, 7), bits(1e300 % 7.0));
        due("by 0", x.rest(2, 0, 0), NAN);
        due("by a large one", x.rest(1, 1, Long.MAX_VALUE), bits(-7.5));
        due("0.0", x.rest(1, 0, 5), bits(0.0));
        due("of u8", x.rest(0, 0, 5), -1);
        due("rest(1, 2)", x.rest(1, 2, 5), -1);
        due("rest(1, -1)", x.rest(1, -1, 5), -1);
        due("rest(3, 0)", x.rest(3, 0, 5), -1);
        due("rest(-1, 0)", x.rest(-1, 0, 5), -1);
    }

    private static void undo() {
        ByteViews x = Feeder.with("a u8 at 0 x 4; r u8 at 1 reads;");
        due("nothing to undo", x.undo(), false);
        for (int i = 1; i <= 10; i++) {
            x.poke(0, i);
        }
        x.poke(0, 10);
        due("eight at most", x.look(3), 8);
        for (int i = 9; i >= 2; i--) {
            due("undo", x.undo(), true);
            due("undone", x.at(0), i);
            due("one change", x.changed(-1), 1);
        }
        due("the oldest are gone", x.undo(), false);
        due("refused: changes stay", x.changed(-1), 1);
        due("at 2", x.at(0), 2);
        x.poke(1, 5);
        x.read(1, 0);
        due("undo a read", x.undo(), true);
        due("what was cleared", x.at(1), 5);
        due("undo isn't undone", x.undo(), true);
        due("the poke", x.at(1), 0);
        x.fill(0, 3);
        Feeder.script(x, "a[1]=1; a[2]=2;");
        x.roll(0, 1);
        due("undo a roll", x.undo(), true);
        bytes("undo a roll", x, 0, 3, 1, 2, 3);
        due("undo a script", x.undo(), true);
        bytes("undo a script", x, 0, 3, 3, 3, 3);
        due("undo a fill", x.undo(), true);
        bytes("undo a fill", x, 0, 2, 0, 0, 0);
        Feeder.views(x, "");
        x.poke(9, 9);
        x.undo();
        due("no views come back", x.look(1), 0);
    }

    private static void look() {
        ByteViews x = Feeder.with("a u16 at 0 x 4 by 3; b u8 at 0; c u8 at 20;");
        pokes(x, 0, 255, 0, 255, 1);
        Feeder.put(x, "abcde");
        int[] want = {64, 3, 3, 3, 5, 55, 511};
        for (int what = 0; what < 7; what++) {
            due("look(" + what + ")", x.look(what), want[what]);
        }
        due("look(7)", x.look(7), -1);
        due("look(-1)", x.look(-1), -1);
    }
}
