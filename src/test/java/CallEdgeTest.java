import java.util.function.IntPredicate;

/**
 * The sentences of promises 1 to 33: for each that names an edge or a refused call, the last that
 * holds and the first that doesn't, and that what is refused leaves all as it was.
 */
public final class CallEdgeTest {
    private static final long NO_ELEMENT = Long.MIN_VALUE + 7;
    private static final long NAN = 0x7ff8000000000000L;
    private static final int MAX = Integer.MAX_VALUE;
    private static final int MIN = Integer.MIN_VALUE;

    private CallEdgeTest() {
    }

    public static void main(String[] args) {
        newObject();
        memory();
        feed();
        end();
        views();
        script();
        fault();
        trouble();
        view();
        named();
        read();
        peek();
        field();
        write();
        writeFloat();
        at();
        poke();
        changed();
        seen();
        over();
        here();
        copy();
        turn();
        sort();
        fill();
        roll();
        show();
        out();
        find();
        sum();
        rest();
        undo();
        look();
        manyCalls();
        Feeder.finish();
    }

    private static void sentence(String words) {
        Feeder.sentence(words);
    }

    private static void due(String what, long got, long want) {
        Feeder.due(what, got, want);
    }

    private static void due(String what, boolean got, boolean want) {
        Feeder.due(what, got, want);
    }

    private static void bytes(String what, ByteViews x, int from, int... want) {
        Feeder.bytes(what, x, from, want);
    }

    private static void pokes(ByteViews x, int from, int... values) {
        Feeder.pokes(x, from, values);
    }

    private static long bits(double x) {
        return Double.doubleToLongBits(x);
    }

    /** Each view that there is not, beside so many that there are. */
    private static void noSuchView(int many, IntPredicate isRefused) {
        int[] none = {-1, many, 15, 16, 17, 31, 32, 64, 255, MAX, MIN};
        for (int v : none) {
            if (v < 0 || v >= many) {
                due("view " + v + " is refused", isRefused.test(v), true);
            }
        }
        for (int v = 0; v < many; v++) {
            due("view " + v + " is refused", isRefused.test(v), false);
        }
    }

    private static void newObject() {
        sentence("1: 64 BYTES, no VIEWS");
        ByteViews x = new ByteViews();
        int[] look = {64, 0, 0, 0, 0, 64, 0};
        for (int what = 0; what < 7; what++) {
            due("look(" + what + ")", x.look(what), look[what]);
        }
        due("at(63)", x.at(63), 0);
        due("at(64)", x.at(64), -1);
        due("a view at its last byte", Feeder.views(x, "a u8 at 63;"), 1);
        due("one behind it", Feeder.views(x, "a u8 at 64;"), -1);
        ByteViews y = new ByteViews();
        due("objects are apart: views", y.look(1), 0);
        x.poke(0, 5);
        due("objects are apart: bytes", y.at(0), 0);
        due("NONE", ByteViews.NONE, -1);
    }

    private static void memory() {
        sentence("2: MEMORY has n BYTES, all 0, there are no VIEWS, HISTORY is empty: true");
        int[] sizes = {1, 2, 63, 64, 65, 255, 256};
        for (int n : sizes) {
            ByteViews x = Feeder.with("a u8 at 0; b u8 at 63 {p:0-1};");
            x.fill(0, 7);
            x.poke(63, 9);
            due("memory(" + n + ")", x.memory(n), true);
            int[] look = {n, 0, 0, 0, 0, n, 0};
            for (int what = 0; what < 7; what++) {
                due("look(" + what + ") behind memory(" + n + ")", x.look(what), look[what]);
            }
            for (int i = 0; i < n; i++) {
                due("at(" + i + ") behind memory(" + n + ")", x.at(i), 0);
            }
            due("behind the last of " + n, x.at(n), -1);
            due("undo", x.undo(), false);
            due("changed", x.changed(-1), 0);
            due("view(0)", x.view(0, 0), -1);
            due("the last", x.poke(n - 1, 1), true);
            due("here", x.here(n - 1), 0);
        }
        ByteViews x = new ByteViews();
        Feeder.views(x, "a u8 at 99;");
        Feeder.put(x, "abc");
        x.memory(100);
        due("THE TAPE stays", x.look(4), 3);
        due("the FAULT stays", x.fault(0), 3);
        sentence("2: .. false if it can't be");
        x.end(0);
        Feeder.views(x, "a u8 at 99;");
        x.poke(98, 5);
        int[] none = {0, -1, 257, 258, 512, MAX, MIN};
        for (int n : none) {
            due("memory(" + n + ")", x.memory(n), false);
        }
        due("refused: bytes", x.look(0), 100);
        due("refused: at", x.at(98), 5);
        due("refused: views", x.look(1), 1);
        due("refused: history", x.look(3), 1);
        due("refused: changes", x.changed(0), 98);
    }

    private static void feed() {
        sentence("3: Twenty bytes come behind THE TAPE, four of each number, the highest first: how many it has");
        ByteViews x = new ByteViews();
        due("the first twenty", x.feed(0x61207538, 0x20617420, 0x303b6220, 0x7538200a, 0x6174200a), 20);
        due("behind them", x.feed(0x353b2020, 0x20202020, 0x20202020, 0x20202020, 0x20202020), 40);
        due("they are read in that order", x.views(), 2);
        due("the first", Feeder.named(x, "a"), 0);
        due("the second, over both feeds", x.view(1, 2), 5);
        Feeder.put(x, "a u8 at 0; c u8 at 1");
        due("behind what end() left", x.feed(0x353b2020, 0x20202020, 0x20202020, 0x20202020, 0x20202020), 40);
        due("as told", x.views(), 2);
        due("where c is", x.view(1, 2), 15);
        due("bytes above 127", x.feed(0xe9616161, -1, MIN, MAX, 0), 20);
        x.views();
        due("they are none of what may stand there", x.fault(1), 0);
        x.feed(0x61207538, 0x20617420, 0x303b20ff, 0x20202020, 0x20202020);
        x.views();
        due("the lowest of a number", x.fault(1), 11);
        sentence("3: .. NONE, and none come, if there would be more than 500");
        for (int n = 1; n <= 25; n++) {
            due("feed " + n, x.feed(0x20202020, 0x20202020, 0x20202020, 0x20202020, 0x20202020), 20 * n);
        }
        for (int n = 500; n > 480; n--) {
            x.end(n);
            due("feed on " + n, x.feed(0x61616161, 0x61616161, 0x61616161, 0x61616161, 0x61616161), -1);
            due("none come on " + n, x.look(4), n);
        }
        due("what was there stays blank", x.views(), 0);
        Feeder.put(x, " ".repeat(480));
        due("feed on 480", x.feed(0x61207538, 0x20617420, 0x303b2020, 0x20202020, 0x20202020), 500);
        due("all 500 are read", x.views(), 1);
    }

    private static void end() {
        sentence("4: THE TAPE has its first n bytes alone: true");
        ByteViews x = new ByteViews();
        Feeder.put(x, "a u8 at 0; b u8 at 1");
        due("all of them", x.end(20), true);
        due("none is gone", x.look(4), 20);
        due("the first 10", x.end(10), true);
        due("ten are left", x.look(4), 10);
        due("those", x.views(), 1);
        Feeder.put(x, "abcdefg");
        x.end(1);
        due("a word that is cut", x.named(), 0);
        Feeder.put(x, "abcdefg");
        x.end(6);
        x.views();
        due("a word that is no longer too long", x.fault(1), 6);
        Feeder.put(x, "a u8 at 0000");
        x.end(11);
        x.views();
        due("a number that is no longer too long", x.fault(1), 11);
        due("end(0) of none", x.end(0), true);
        x.feed(1, 2, 3, 4, 5);
        due("end(0)", x.end(0), true);
        due("it is empty", x.look(4), 0);
        due("views of none", x.views(), 0);
        sentence("4: .. false if it has not so many, or n is below 0");
        due("end(1) of none", x.end(1), false);
        Feeder.put(x, "a u8 at 0;");
        due("end(11) of 10", x.end(11), false);
        due("end(20) of 10", x.end(20), false);
        due("end(500) of 10", x.end(500), false);
        due("end(MAX)", x.end(MAX), false);
        due("end(-1)", x.end(-1), false);
        due("end(MIN)", x.end(MIN), false);
        due("it stays", x.look(4), 10);
        due("what it tells", x.views(), 1);
        Feeder.put(x, " ".repeat(500));
        due("end(501) of 500", x.end(501), false);
        due("end(500) of 500", x.end(500), true);
    }

    private static void views() {
        sentence("5: THE TAPE (empty then, with a FAULT, too) tells VIEWS: how many");
        ByteViews x = new ByteViews();
        due("none", x.views(), 0);
        due("one", Feeder.views(x, "a u8 at 0;"), 1);
        due("the tape is empty", x.look(4), 0);
        due("what is told again", x.views(), 0);
        due("no view is left", x.look(1), 0);
        StringBuilder many = new StringBuilder();
        for (char c = 'a'; c < 'a' + 16; c++) {
            many.append(c).append(" u8 at 0;");
        }
        due("sixteen", Feeder.views(x, many.toString()), 16);
        sentence("5: .. NONE with a FAULT (VIEWS stay)");
        due("seventeen", Feeder.views(x, many + "q u8 at 0;"), -1);
        due("sixteen stay", x.look(1), 16);
        due("the tape is empty with a fault", x.look(4), 0);
        x.turn(3);
        due("the first are good, the last isn't", Feeder.views(x, "z s16 big at 3 x 2 ro {q:0-1}; a u8 at 64;"), -1);
        due("sixteen stay", x.look(1), 16);
        for (int v = 0; v < 16; v++) {
            int[] want = {0, v == 3 ? 1 : 0, 0, 1, 1, 0, 0};
            for (int what = 0; what < 7; what++) {
                due("view(" + v + ", " + what + ") stays", x.view(v, what), want[what]);
            }
        }
        due("z", Feeder.named(x, "z"), -1);
        due("p", Feeder.named(x, "p"), 15);
        due("a fault at the begin", Feeder.views(x, "!"), -1);
        due("they can be written still", x.write(15, 0, 5), true);
        due("told behind a fault", Feeder.views(x, "b u8 at 1;"), 1);
        due("where it is", x.view(0, 2), 1);
        due("history stays", x.look(3), 1);
    }

    private static void script() {
        sentence("6: THE TAPE (empty then, with a FAULT, too) is a SCRIPT, which is done");
        ByteViews x = Feeder.with("a u8 at 0 x 8; k u8 at 12 ro;");
        due("none", x.script(), 0);
        due("one", Feeder.script(x, "a = 1;"), 1);
        due("the tape is empty", x.look(4), 0);
        due("again", x.script(), 0);
        due("a fault", Feeder.script(x, "a = ;"), -1);
        due("the tape is empty with a fault", x.look(4), 0);
        sentence("6: .. how many STATEMENTS were done to their ends and stay (those with \"=\", \"fail\" never, \"if\" by what is in it; those of GROUPS that were undone don't count)");
        due("two", Feeder.script(x, "a = 1; a = 1;"), 2);
        due("125", Feeder.script(x, "a=1;".repeat(125)), 125);
        due("fail", Feeder.script(x, "a = 1; fail;"), 1);
        due("fail in groups", Feeder.script(x, "(fail;) (fail;)"), 0);
        due("an if that is done", Feeder.script(x, "if 1 a = 1;"), 1);
        due("an if that isn't done", Feeder.script(x, "if 0 a = 1;"), 0);
        due("an if round a group", Feeder.script(x, "if 1 (a = 1; a = 2; if 0 a = 3; if 1 a = 4;)"), 3);
        due("groups themselves", Feeder.script(x, "() (()) if 1 ()"), 0);
        due("those of an undone group", Feeder.script(x, "a = 1; (a = 2; a = 3; (a = 4;) fail;) a = 5;"), 2);
        due("those of the innermost alone", Feeder.script(x, "(a = 1; (a = 2; a = 3; fail;) a = 4;)"), 2);
        due("one with a trouble", Feeder.script(x, "(k = 1;) (a[8] = 1;) (a = 1/0;) a = 1;"), 1);
        due("those ahead of the end of the script", Feeder.script(x, "a = 1; (a = 2;) k = 1; a = 3;"), 2);
        sentence("6: .. NONE with a FAULT (nothing is done)");
        pokes(x, 0, 9, 9);
        due("at its end", Feeder.script(x, "a = 1; a[1] = 2; b = 3;"), -1);
        bytes("nothing is done", x, 0, 9, 9);
        due("at its begin", Feeder.script(x, "= a = 1;"), -1);
        bytes("nothing is done", x, 0, 9, 9);
        due("what is not read is no script", Feeder.script(x, "a = 1"), -1);
        bytes("nothing is done", x, 0, 9, 9);
    }

    private static void fault() {
        sentence("7: Of the latest views(), script() what 0 its FAULT (0 without), 1 its place (NONE)");
        ByteViews x = new ByteViews();
        due("at first", x.fault(0), 0);
        due("its place", x.fault(1), -1);
        Feeder.views(x, "a u8 at 64;");
        due("of views()", x.fault(0), 3);
        due("its place", x.fault(1), 8);
        due("again", x.fault(0), 3);
        Feeder.named(x, "!!");
        x.memory(30);
        x.undo();
        x.poke(0, 1);
        x.feed(0, 0, 0, 0, 0);
        x.end(0);
        due("no other call", x.fault(0), 3);
        due("its place", x.fault(1), 8);
        x.script();
        due("none of the script()", x.fault(0), 0);
        due("no place of the script()", x.fault(1), -1);
        Feeder.script(x, "!");
        due("of script()", x.fault(0), 1);
        due("place 0", x.fault(1), 0);
        Feeder.views(x, "a u8 at 0;");
        due("none of the views()", x.fault(0), 0);
        due("no place of the views()", x.fault(1), -1);
        Feeder.script(x, "((((((");
        due("5", x.fault(0), 5);
        Feeder.script(x, "fail;");
        due("a trouble is no fault", x.fault(0), 0);
        sentence("7: .. NONE for another what");
        Feeder.script(x, "b = 1;");
        int[] others = {-1, 2, 3, MAX, MIN};
        for (int what : others) {
            due("fault(" + what + ")", x.fault(what), -1);
        }
    }

    private static void trouble() {
        sentence("8: Of the latest script() that was done TROUBLE i (as they came, 20 at most): which");
        ByteViews x = Feeder.with("a u8 at 0; k u8 at 1 ro;");
        Feeder.script(x, "(a[1] = 1;)" + "(fail;)".repeat(17) + "(k = 1;)(a=1/0;)");
        due("twenty", x.trouble(-1), 20);
        due("the first", x.trouble(0), 1);
        due("the second", x.trouble(1), 4);
        due("the 18th", x.trouble(17), 4);
        due("the 19th", x.trouble(18), 3);
        due("the 20th", x.trouble(19), 2);
        due("trouble(20)", x.trouble(20), -1);
        Feeder.script(x, "(a[1] = 1;)" + "(fail;)".repeat(18) + "(k = 1;)(a=1/0;)(a=1/0;)");
        due("the first of 22", x.trouble(0), 1);
        due("the 20th of 22", x.trouble(19), 3);
        due("the 21st isn't kept", x.trouble(20), -1);
        due("the 22nd isn't kept", x.trouble(21), -1);
        Feeder.script(x, "(fail;)");
        due("one alone", x.trouble(0), 4);
        due("none of those ahead", x.trouble(1), -1);
        sentence("8: .. i NONE: how many came");
        due("one", x.trouble(-1), 1);
        Feeder.script(x, "a = 1;");
        due("none", x.trouble(-1), 0);
        Feeder.script(x, "(fail;)".repeat(21));
        due("21", x.trouble(-1), 21);
        Feeder.script(x, "(fail;)".repeat(71));
        due("71", x.trouble(-1), 71);
        Feeder.script(x, "(a = 1/0;) b = 1;");
        due("a fault leaves them", x.trouble(-1), 71);
        due("which as well", x.trouble(0), 4);
        x.memory(64);
        due("so does memory()", x.trouble(-1), 71);
        Feeder.script(x, "((fail;) fail;) fail; fail;");
        due("those of groups that were undone", x.trouble(-1), 3);
        sentence("8: .. NONE if there is none such");
        int[] none = {3, 4, 19, 20, 21, 71, MAX, -2, MIN};
        for (int i : none) {
            due("trouble(" + i + ")", x.trouble(i), -1);
        }
        ByteViews y = new ByteViews();
        due("at first", y.trouble(0), -1);
        due("how many at first", y.trouble(-1), 0);
    }

    private static void view() {
        sentence("9: Of a VIEW what 0 its KIND (0 u8 .. 8 f64), 1 1 if big, 2 where it is, 3 how many ELEMENTS, 4 its stride, 5 ACCESS, 6 how many FIELDS");
        ByteViews x = new ByteViews();
        x.memory(256);
        Feeder.views(x, "a u8 at 255; b f64 big at 248 x 1 by 64 ro; c s16 at 0 x 64 by 4 ones {a:0-0,b:0-0,c:0-0,d:0-0,e:0-0,f:0-0,g:0-0,h:0-0};"
            + "d s8 at 1 x 64 by 1 reads {a:0-0}; e f32 big at 9 x 2;");
        int[][] want = {{0, 0, 255, 1, 1, 0, 0}, {8, 1, 248, 1, 64, 1, 0}, {3, 0, 0, 64, 4, 2, 8}, {1, 0, 1, 64, 1, 3, 1}, {7, 1, 9, 2, 4, 0, 0}};
        for (int v = 0; v < want.length; v++) {
            for (int what = 0; what < 7; what++) {
                due("view(" + v + ", " + what + ")", x.view(v, what), want[v][what]);
            }
        }
        ByteViews y = Feeder.with("a u8 at 0;b s8 at 0;c u16 at 0;d s16 at 0;e u32 at 0;f s32 at 0;g s64 at 0;h f32 at 0;i f64 at 0;");
        for (int v = 0; v < 9; v++) {
            due("the kind " + v, y.view(v, 0), v);
        }
        sentence("9: .. NONE if there is none such, or another what");
        noSuchView(5, v -> x.view(v, 0) == -1);
        int[] others = {-1, 7, 8, MAX, MIN};
        for (int what : others) {
            due("view(0, " + what + ")", x.view(0, what), -1);
        }
        due("view(5, 7)", x.view(5, 7), -1);
    }

    private static void named() {
        sentence("10: The number of the VIEW whose NAME stands on THE TAPE (empty then) alone, blanks aside");
        StringBuilder many = new StringBuilder();
        for (char c = 'a'; c < 'a' + 16; c++) {
            many.append(c).append(" u8 at 0;");
        }
        ByteViews x = Feeder.with(many.toString());
        due("the first", Feeder.named(x, "a"), 0);
        due("the last", Feeder.named(x, "p"), 15);
        due("the tape is empty", x.look(4), 0);
        due("blanks", Feeder.named(x, " \n \np\n \n "), 15);
        due("a full tape of them", Feeder.named(x, " ".repeat(499) + "b"), 1);
        due("blanks behind", Feeder.named(x, "b" + "\n".repeat(499)), 1);
        ByteViews y = Feeder.with("abcdef u8 at 0; f6 u8 at 0;");
        due("six signs", Feeder.named(y, "abcdef"), 0);
        due("a digit", Feeder.named(y, "f6"), 1);
        sentence("10: .. NONE: there is none");
        String[] none = {"", " ", "\n", "q", "aa", "a b", "a a", "a;", ";a", "(a)", "a1", "1", "1a", "a\t", "\u0000a", "A", "u8", "big", "a.b", "a 1", "ab cd", "abcdefg",
            "aaaaaaaaaaaaaaaa", "97", "a 97", "112"};
        for (String text : none) {
            due("named of <" + text + ">", Feeder.named(x, text), -1);
            due("the tape is empty behind <" + text + ">", x.look(4), 0);
        }
        String[] near = {"abcde", "abcdefg", "bcdef", "abcdef0", "abc def", "f", "6", "f 6", "f66", "abcdef f6"};
        for (String text : near) {
            due("named of <" + text + ">", Feeder.named(y, text), -1);
        }
        due("without views", Feeder.named(new ByteViews(), "a"), -1);
        x.memory(64);
        due("behind memory()", Feeder.named(x, "a"), -1);
    }

    private static void read() {
        sentence("11: ELEMENT i of a VIEW is READ: the WHOLE VALUE, of f32 floatToIntBits, of f64 doubleToLongBits");
        ByteViews x = Feeder.with("a s64 at 0; f f32 at 8; d f64 at 16; r u8 at 24 x 3 reads; u u32 at 8;");
        long[] wholes = {0, -1, Long.MAX_VALUE, Long.MIN_VALUE, NO_ELEMENT};
        for (long value : wholes) {
            x.write(0, 0, value);
            due("s64 of " + value, x.read(0, 0), value);
        }
        int[] small = {0, 0x80000000, 0x7f800000, 0xff800000, 0x7f7fffff, 1, 0x80000001, 0x007fffff, 0x00800000, 0x3f800000, 0xbf800000};
        for (int value : small) {
            x.write(4, 0, value);
            due("f32 of " + value, x.read(1, 0), value);
        }
        int[] nans = {0x7f800001, 0x7fc00000, 0x7fffffff, 0xff800001, 0xffc00000, 0xffffffff};
        for (int value : nans) {
            x.write(4, 0, value);
            due("f32 of the NaN " + value, x.read(1, 0), 0x7fc00000);
            due("its bytes stay", x.peek(4, 0), value & 0xffffffffL);
        }
        long[] large = {0, Long.MIN_VALUE, 0x7ff0000000000000L, 0xfff0000000000000L, 0x7fefffffffffffffL, 1, 0x000fffffffffffffL, 0x0010000000000000L};
        for (long value : large) {
            x.writeFloat(2, 0, value);
            due("f64 of " + value, x.read(2, 0), value);
        }
        pokes(x, 16, 1, 0, 0, 0, 0, 0, 0xf0, 0x7f);
        due("f64 of a NaN", x.read(2, 0), NAN);
        pokes(x, 16, 255, 255, 255, 255, 255, 255, 255, 255);
        due("f64 of a NaN below 0", x.read(2, 0), NAN);
        pokes(x, 24, 1, 2, 3);
        due("the last of reads", x.read(3, 2), 3);
        bytes("it alone is cleared", x, 24, 1, 2, 0);
        sentence("11: .. Long.MIN_VALUE + 7 if there is none such");
        noSuchView(5, v -> x.read(v, 0) == NO_ELEMENT && v != 0);
        pokes(x, 24, 1, 2, 3);
        int[] none = {-1, 3, 4, 64, MAX, MIN};
        for (int i : none) {
            due("read(3, " + i + ")", x.read(3, i), NO_ELEMENT);
        }
        bytes("nothing is cleared", x, 24, 1, 2, 3);
        due("read(0, 1)", x.read(0, 1), NO_ELEMENT);
        due("without views", new ByteViews().read(0, 0), NO_ELEMENT);
    }

    private static void peek() {
        sentence("12: Likewise, but reads doesn't clear it");
        ByteViews x = Feeder.with("r u8 at 0 x 2 reads; f f32 at 4 reads; d f64 at 8 reads; s s16 big at 16;");
        pokes(x, 0, 7, 8);
        x.writeFloat(1, 0, bits(-1.5));
        x.writeFloat(2, 0, bits(-1.5));
        x.write(3, 0, -2);
        for (int n = 0; n < 2; n++) {
            due("u8", x.peek(0, 1), 8);
            due("f32", x.peek(1, 0), Float.floatToIntBits(-1.5f));
            due("f64", x.peek(2, 0), bits(-1.5));
            due("s16", x.peek(3, 0), -2);
        }
        due("the changes are of the write", x.changed(-1), 2);
        due("history", x.look(3), 5);
        pokes(x, 4, 255, 255, 255, 255);
        due("NaN of f32", x.peek(1, 0), 0x7fc00000);
        pokes(x, 8, 255, 255, 255, 255, 255, 255, 255, 255);
        due("NaN of f64", x.peek(2, 0), NAN);
        noSuchView(4, v -> x.peek(v, 0) == NO_ELEMENT);
        int[] none = {-1, 2, 3, 64, MAX, MIN};
        for (int i : none) {
            due("peek(0, " + i + ")", x.peek(0, i), NO_ELEMENT);
        }
    }

    private static void field() {
        sentence("13: FIELD f of ELEMENT i (as peek())");
        ByteViews x = Feeder.with("a u16 at 0 x 2 reads {a:0-0,b:1-1,c:2-2,d:3-3,e:4-4,f:5-5,g:6-6,h:7-15}; b s8 at 8 {z:7-7}; c u8 at 8; d f64 at 16;");
        pokes(x, 0, 0, 0, 0x2a, 0xff);
        int[] want = {0, 1, 0, 1, 0, 1, 0, 510};
        for (int f = 0; f < 8; f++) {
            due("field " + f + " of element 1", x.field(0, 1, f), want[f]);
            due("field " + f + " of element 0", x.field(0, 0, f), 0);
        }
        bytes("nothing is cleared", x, 2, 0x2a, 0xff);
        x.write(1, 0, -1);
        due("the sign's bit", x.field(1, 0, 0), 1);
        sentence("13: .. NONE if there is none such");
        int[] none = {-1, 8, 9, MAX, MIN};
        for (int f : none) {
            due("field(0, 0, " + f + ")", x.field(0, 0, f), -1);
        }
        int[] noElement = {-1, 2, 64, MAX, MIN};
        for (int i : noElement) {
            due("field(0, " + i + ", 0)", x.field(0, i, 0), -1);
        }
        due("field(1, 0, 1)", x.field(1, 0, 1), -1);
        noSuchView(2, v -> x.field(v, 0, 0) == -1);
        due("one without fields", x.field(2, 0, 0), -1);
        due("of f64", x.field(3, 0, 0), -1);
        Feeder.views(x, "a u8 at 0 {p:0-0};");
        due("fields of those told ahead", x.field(0, 0, 1), -1);
    }

    private static void write() {
        sentence("14: ELEMENT i is WRITTEN WHOLE: true");
        ByteViews x = Feeder.with("a u8 at 0 x 3; b s64 big at 8; k u8 at 20 ro; o u8 at 21 ones; r u8 at 22 reads;");
        due("the first", x.write(0, 0, 1), true);
        due("the last", x.write(0, 2, 3), true);
        bytes("they alone", x, 0, 1, 0, 3, 0);
        due("the least long", x.write(1, 0, Long.MIN_VALUE), true);
        bytes("the least long", x, 8, 128, 0, 0, 0, 0, 0, 0, 0);
        due("what it is", x.write(0, 0, 257), true);
        due("changes none", x.changed(-1), 0);
        due("ones", x.write(3, 0, 1), true);
        due("reads", x.write(4, 0, 9), true);
        due("reads keeps it", x.at(22), 9);
        sentence("14: .. false if there is none such, it is ro");
        noSuchView(2, v -> !x.write(v, 0, 5));
        int[] none = {-1, 3, 64, MAX, MIN};
        for (int i : none) {
            due("write(0, " + i + ")", x.write(0, i, 77), false);
        }
        due("ro", x.write(2, 0, 5), false);
        due("an element that a ro has not", x.write(2, 1, 5), false);
        bytes("nothing is written", x, 0, 5, 0, 3, 0);
        bytes("nothing is written", x, 20, 0);
    }

    private static void writeFloat() {
        sentence("15: ELEMENT i is WRITTEN a FLOAT (longBitsToDouble): true");
        ByteViews x = Feeder.with("a u8 at 0 x 3; f f32 at 4 x 2; d f64 big at 16; k f64 at 24 ro; s s64 at 32;");
        due("the last", x.writeFloat(0, 2, bits(3.99)), true);
        bytes("it alone", x, 0, 0, 0, 3, 0);
        due("f32", x.writeFloat(1, 1, bits(-2)), true);
        due("f32", x.peek(1, 1), Float.floatToIntBits(-2f));
        due("the bits 1", x.writeFloat(2, 0, 1), true);
        due("the bits 1", x.peek(2, 0), 1);
        due("the bits 1 into a whole one", x.writeFloat(4, 0, 1), true);
        due("the bits 1 into a whole one", x.peek(4, 0), 0);
        due("the bits -1 are a NaN", x.writeFloat(4, 0, -1), true);
        due("the bits -1 are a NaN", x.peek(4, 0), 0);
        due("2 to the 63rd", x.writeFloat(4, 0, bits(9.223372036854775807e18)), true);
        due("2 to the 63rd", x.peek(4, 0), Long.MAX_VALUE);
        due("into u8", x.writeFloat(0, 0, bits(1e30)), true);
        due("into u8", x.at(0), 255);
        due("into u8 below 0", x.writeFloat(0, 0, bits(-1e30)), true);
        due("into u8 below 0", x.at(0), 0);
        sentence("15: .. false likewise");
        noSuchView(3, v -> !x.writeFloat(v, 0, bits(5)));
        int[] none = {-1, 3, 64, MAX, MIN};
        for (int i : none) {
            due("writeFloat(0, " + i + ")", x.writeFloat(0, i, bits(77)), false);
        }
        due("writeFloat(2, 1)", x.writeFloat(2, 1, bits(77)), false);
        due("ro", x.writeFloat(3, 0, bits(5)), false);
        bytes("nothing is written", x, 0, 5, 0, 3, 0);
        bytes("nothing is written", x, 24, 0, 0, 0, 0, 0, 0, 0, 0);
    }

    private static void at() {
        sentence("16: A BYTE, 0 .. 255. NONE if there is none such");
        ByteViews x = new ByteViews();
        int[] sizes = {1, 64, 255, 256};
        for (int n : sizes) {
            x.memory(n);
            x.poke(0, 255);
            due("255", x.at(0), 255);
            x.poke(n - 1, 128);
            due("the last of " + n, x.at(n - 1), 128);
            int[] none = {-1, n, n + 1, 257, 512, MAX, MIN};
            for (int i : none) {
                due("at(" + i + ") of " + n, x.at(i), -1);
            }
        }
    }

    private static void poke() {
        sentence("17: A BYTE becomes v, cut to 8 bits (whatever VIEWS are there): true");
        ByteViews x = Feeder.with("k u8 at 0 ro; o u8 at 1 ones; r u8 at 2 reads; f f64 at 8 ro;");
        int[][] cut = {{0, 0}, {255, 255}, {256, 0}, {257, 1}, {-1, 255}, {-128, 128}, {-256, 0}, {MAX, 255}, {MIN, 0}, {0x1234, 0x34}};
        for (int[] c : cut) {
            for (int i = 0; i < 3; i++) {
                due("poke(" + i + ", " + c[0] + ")", x.poke(i, c[0]), true);
                due(c[0] + " at " + i, x.at(i), c[1]);
            }
        }
        due("poke of f64", x.poke(15, 0x40), true);
        due("the last", x.poke(63, 1), true);
        sentence("17: .. false if there is none such");
        int[] none = {-1, 64, 65, 255, 256, MAX, MIN};
        for (int i : none) {
            due("poke(" + i + ")", x.poke(i, 1), false);
        }
        due("nothing is written", x.look(6), 3 * 0x34 + 0x40 + 1);
        x.memory(1);
        due("poke(1) of 1", x.poke(1, 1), false);
        due("poke(0) of 1", x.poke(0, 1), true);
        x.memory(256);
        due("poke(255) of 256", x.poke(255, 1), true);
        due("poke(256) of 256", x.poke(256, 1), false);
    }

    private static void changed() {
        sentence("18: CHANGES: the i-th offset; i NONE: how many");
        ByteViews x = new ByteViews();
        x.memory(256);
        Feeder.views(x, "a u8 at 0 x 4 by 64; b u32 at 0 x 64; c u8 at 255;");
        x.fill(0, 1);
        due("four", x.changed(-1), 4);
        for (int i = 0; i < 4; i++) {
            due("changed(" + i + ")", x.changed(i), 64 * i);
        }
        x.fill(1, -1);
        due("all of 256", x.changed(-1), 256);
        due("the first", x.changed(0), 0);
        due("the last", x.changed(255), 255);
        due("behind the last", x.changed(256), -1);
        x.write(2, 0, 0);
        due("the last byte alone", x.changed(0), 255);
        sentence("18: .. NONE if there is none such");
        int[] none = {1, 2, 255, 256, MAX, -2, MIN};
        for (int i : none) {
            due("changed(" + i + ")", x.changed(i), -1);
        }
        x.write(2, 0, 0);
        due("none at all", x.changed(0), -1);
        due("how many then", x.changed(-1), 0);
    }

    private static void seen() {
        sentence("19: ELEMENTS of a VIEW (rising) with a BYTE of CHANGES: how many (i NONE), the i-th of them");
        ByteViews x = Feeder.with("a u32 at 0 x 4; b u8 at 0 x 64; c s64 at 3 x 8 by 1; d u16 at 0 x 5 by 5 ro; e u8 at 20 x 2; m u8 at 0 x 16;");
        x.poke(3, 1);
        due("its last byte", x.seen(0, -1), 1);
        due("its last byte", x.seen(0, 0), 0);
        x.poke(4, 1);
        due("the next one's first byte", x.seen(0, -1), 1);
        due("the next one's first byte", x.seen(0, 0), 1);
        x.poke(10, 1);
        due("all that lie in one another", x.seen(2, -1), 8);
        due("the first of them", x.seen(2, 0), 0);
        due("the last of them", x.seen(2, 7), 7);
        due("behind the last of them", x.seen(2, 8), -1);
        due("of a ro", x.seen(3, 0), 2);
        due("one that has none", x.seen(4, -1), 0);
        due("the first that it has", x.seen(4, 0), -1);
        x.poke(22, 1);
        due("right behind its last", x.seen(4, -1), 0);
        x.poke(19, 1);
        due("right ahead of its first", x.seen(4, -1), 0);
        x.poke(12, 1);
        due("between strides", x.seen(3, -1), 0);
        x.fill(1, 7);
        due("all 64", x.seen(1, -1), 64);
        due("the 64th", x.seen(1, 63), 63);
        due("the 65th", x.seen(1, 64), -1);
        due("all four", x.seen(0, 3), 3);
        x.fill(1, 7);
        due("none", x.seen(1, -1), 0);
        sentence("19: .. NONE if there is none such");
        noSuchView(6, v -> x.seen(v, -1) == -1);
        x.poke(0, 9);
        int[] none = {1, 2, 64, MAX, -2, MIN};
        for (int i : none) {
            due("seen(1, " + i + ")", x.seen(1, i), -1);
        }
    }

    private static void over() {
        sentence("20: How many BYTES ELEMENTS of both VIEWS have in common");
        ByteViews x = Feeder.with("a u32 at 0 x 3; b u32 at 12 x 3; c u32 at 11 x 3; d u8 at 3 x 3 by 8; e s64 at 0 x 57 by 1; f u16 at 0 x 8 by 4; g u16 at 2 x 8 by 4; h u8 at 63;");
        int[][] want = {
            {12, 0, 1, 2, 12, 6, 6, 0}, {0, 12, 11, 1, 12, 6, 6, 0}, {1, 11, 12, 2, 12, 6, 6, 0}, {2, 1, 2, 3, 3, 0, 3, 0},
            {12, 12, 12, 3, 64, 16, 16, 1}, {6, 6, 6, 0, 16, 16, 0, 0}, {6, 6, 6, 3, 16, 0, 16, 0}, {0, 0, 0, 0, 1, 0, 0, 1}};
        for (int v = 0; v < 8; v++) {
            for (int w = 0; w < 8; w++) {
                due("over(" + v + ", " + w + ")", x.over(v, w), want[v][w]);
            }
        }
        ByteViews y = new ByteViews();
        y.memory(256);
        Feeder.views(y, "a u32 at 0 x 64; b u8 at 255;");
        due("all 256", y.over(0, 0), 256);
        due("the last", y.over(1, 0), 1);
        sentence("20: .. NONE if there are none such");
        noSuchView(8, v -> x.over(v, 0) == -1);
        noSuchView(8, w -> x.over(0, w) == -1);
        due("over(8, 8)", x.over(8, 8), -1);
    }

    private static void here() {
        sentence("21: VIEWS of which an ELEMENT has a BYTE, as bits");
        ByteViews x = new ByteViews();
        x.memory(256);
        StringBuilder many = new StringBuilder();
        for (char c = 'a'; c < 'a' + 16; c++) {
            many.append(c).append(" u16 at ").append(c - 'a').append(" x 5 by 59;");
        }
        Feeder.views(x, many.toString());
        due("the first alone", x.here(0), 1);
        due("two", x.here(1), 3);
        due("the last two", x.here(15), 0xc000);
        due("the last alone", x.here(16), 0x8000);
        due("none", x.here(17), 0);
        due("between", x.here(58), 0);
        due("the next elements", x.here(59), 1);
        due("the last element of a", x.here(237), 3);
        due("behind the last element of a", x.here(238), 6);
        due("the last elements", x.here(252), 0x8000);
        due("behind the last elements", x.here(253), 0);
        Feeder.views(x, "a u8 at 0; b s64 at 0 x 2 by 4; c u8 at 255; d u8 at 11;");
        due("in one another", x.here(5), 2);
        due("its last byte", x.here(11), 10);
        due("behind it", x.here(12), 0);
        due("the last byte", x.here(255), 4);
        sentence("21: .. NONE if there is none such");
        int[] none = {-1, 256, 257, MAX, MIN};
        for (int i : none) {
            due("here(" + i + ")", x.here(i), -1);
        }
        x.memory(9);
        due("without views", x.here(8), 0);
        due("behind the last of 9", x.here(9), -1);
    }

    private static void copy() {
        sentence("22: ELEMENTS of a VIEW become those of another one, from 0 on, as many as both have, each READ (as peek()) as it is then, and WRITTEN: how many");
        ByteViews x = Feeder.with("a u8 at 0 x 4; b u8 at 1 x 4; c s16 big at 16 x 2; d u8 at 24; k u8 at 28 x 2 ro; o u8 at 32 x 2 ones; r u8 at 36 x 2 reads; f f32 at 40 x 2;");
        pokes(x, 0, 1, 2, 3, 4, 5);
        due("a to b", x.copy(0, 1), 4);
        bytes("each as it is then", x, 0, 1, 1, 1, 1, 1);
        pokes(x, 0, 1, 2, 3, 4, 5);
        due("b to a", x.copy(1, 0), 4);
        bytes("from 0 on", x, 0, 2, 3, 4, 5, 5);
        due("as many as the other has", x.copy(0, 2), 2);
        bytes("as many as the other has", x, 16, 0, 2, 0, 3, 0, 0);
        due("as many as the one has", x.copy(3, 0), 1);
        bytes("as many as the one has", x, 0, 0, 3);
        x.write(2, 0, -2);
        due("cut", x.copy(2, 0), 2);
        bytes("cut", x, 0, 254, 3);
        pokes(x, 28, 255, 1);
        due("from a ro", x.copy(4, 2), 2);
        bytes("from a ro", x, 16, 0, 255, 0, 1);
        pokes(x, 32, 255, 255);
        due("to ones", x.copy(4, 5), 2);
        bytes("to ones", x, 32, 0, 254);
        pokes(x, 36, 7, 8);
        due("from reads", x.copy(6, 3), 1);
        bytes("it isn't cleared", x, 36, 7, 8);
        due("to reads", x.copy(4, 6), 2);
        bytes("to reads", x, 36, 255, 1);
        due("to floats", x.copy(2, 7), 2);
        due("to floats", x.peek(7, 0), Float.floatToIntBits(255f));
        x.writeFloat(7, 0, bits(-1.5));
        x.writeFloat(7, 1, NAN);
        due("from floats", x.copy(7, 2), 2);
        bytes("from floats", x, 16, 255, 255, 0, 0);
        sentence("22: .. NONE if there are none such, the one that is WRITTEN is ro");
        noSuchView(8, v -> x.copy(v, 3) == -1);
        noSuchView(4, w -> x.copy(3, w) == -1 || w == 5 || w == 6 || w == 7);
        due("to a ro", x.copy(0, 4), -1);
        due("a ro to itself", x.copy(4, 4), -1);
        bytes("nothing is written", x, 28, 255, 1);
    }

    private static void turn() {
        sentence("23: A VIEW is big, if it is not, else not; its ELEMENTS, from 0 on, are laid anew with the VALUES that all had ahead of the call (bit by bit, whatever ACCESS; later ones over earlier ones): true");
        String[] kinds = {"u8", "s8", "u16", "s16", "u32", "s32", "s64", "f32", "f64"};
        int[] widths = {1, 1, 2, 2, 4, 4, 8, 4, 8};
        for (int k = 0; k < kinds.length; k++) {
            for (String access : new String[] {"", " ones", " reads"}) {
                ByteViews x = Feeder.with("a " + kinds[k] + " at 1 x 2 by 10" + access + "; b " + kinds[k] + " at 1 x 2 by 10;");
                for (int i = 0; i < 21; i++) {
                    x.poke(i, 0xff - i);
                }
                due("turn of " + kinds[k] + access, x.turn(0), true);
                due(kinds[k] + access + " is big", x.view(0, 1), 1);
                due("another view isn't", x.view(1, 1), 0);
                for (int i = 0; i < 21; i++) {
                    int in = (i - 1 + 10) % 10;
                    boolean within = i >= 1 && in < widths[k];
                    due("byte " + i + " of " + kinds[k] + access, x.at(i), 0xff - (within ? i - in + widths[k] - 1 - in : i));
                }
                due("turn back", x.turn(0), true);
                due(kinds[k] + access + " isn't big", x.view(0, 1), 0);
                due("byte 1 of " + kinds[k] + access, x.at(1), 0xfe);
            }
        }
        ByteViews x = Feeder.with("a u16 at 0 x 3 by 1; b u32 big at 8 x 2 by 2; k u16 big at 20 ro; c u8 at 24;");
        pokes(x, 0, 1, 2, 3, 4);
        due("in one another", x.turn(0), true);
        bytes("as all were ahead of the call, later ones over earlier ones", x, 0, 2, 3, 4, 3);
        pokes(x, 8, 1, 2, 3, 4, 5, 6);
        due("in one another, big", x.turn(1), true);
        bytes("in one another, big", x, 8, 4, 3, 6, 5, 4, 3);
        due("one that changes none", x.turn(3), true);
        due("it is big", x.view(3, 1), 1);
        due("no changes", x.changed(-1), 0);
        sentence("23: .. false if there is none such, it is ro");
        due("ro", x.turn(2), false);
        due("it stays big", x.view(2, 1), 1);
        noSuchView(2, v -> !x.turn(v));
    }

    private static void sort() {
        sentence("24: ELEMENTS of a VIEW are READ (as peek()) all, then WRITTEN rising from 0 on (FLOATS as Double.compare has it): true");
        ByteViews x = Feeder.with("a s64 at 0 x 4; u u8 at 32 x 4; s s8 at 32 x 4; f f64 at 0 x 7; g f32 big at 36 x 6 by 4; o u8 at 62; p u16 at 60 x 1 by 2;");
        long[] wholes = {Long.MAX_VALUE, 0, Long.MIN_VALUE, -1};
        for (int i = 0; i < 4; i++) {
            x.write(0, i, wholes[i]);
        }
        due("s64", x.sort(0), true);
        due("the least", x.peek(0, 0), Long.MIN_VALUE);
        due("the next", x.peek(0, 1), -1);
        due("0", x.peek(0, 2), 0);
        due("the largest", x.peek(0, 3), Long.MAX_VALUE);
        pokes(x, 32, 128, 127, 255, 0);
        due("u8", x.sort(1), true);
        bytes("u8", x, 32, 0, 127, 128, 255);
        due("s8", x.sort(2), true);
        bytes("s8", x, 32, 128, 255, 0, 127);
        double[] floats = {Double.NaN, 0.0, -0.0, Double.POSITIVE_INFINITY, Double.NEGATIVE_INFINITY, -Double.MIN_VALUE, Double.MIN_VALUE};
        double[] order = {Double.NEGATIVE_INFINITY, -Double.MIN_VALUE, -0.0, 0.0, Double.MIN_VALUE, Double.POSITIVE_INFINITY, Double.NaN};
        for (int i = 0; i < 7; i++) {
            x.writeFloat(3, i, bits(floats[i]));
        }
        due("f64", x.sort(3), true);
        for (int i = 0; i < 7; i++) {
            due("f64 " + i, x.peek(3, i), bits(order[i]));
        }
        pokes(x, 36, 0xff, 0xff, 0xff, 0xff);
        x.writeFloat(4, 1, bits(1));
        x.writeFloat(4, 2, bits(-1));
        x.writeFloat(4, 3, bits(Double.POSITIVE_INFINITY));
        x.writeFloat(4, 4, bits(0.0));
        x.writeFloat(4, 5, bits(-0.0));
        due("f32", x.sort(4), true);
        float[] small = {-1f, -0f, 0f, 1f, Float.POSITIVE_INFINITY, Float.NaN};
        for (int i = 0; i < 6; i++) {
            due("f32 " + i, x.peek(4, i), Float.floatToIntBits(small[i]));
        }
        due("one element", x.sort(5), true);
        due("one with its stride", x.sort(6), true);
        ByteViews y = new ByteViews();
        y.memory(256);
        Feeder.views(y, "a u32 at 0 x 64; b u16 at 0 x 64 by 4;");
        for (int i = 0; i < 64; i++) {
            y.write(0, i, (63 - i) * 0x10001L);
        }
        due("64 elements", y.sort(0), true);
        due("64 elements: the first", y.peek(0, 0), 0);
        due("64 elements: the last", y.peek(0, 63), 63 * 0x10001L);
        due("it is kept as it is", y.sort(0), true);
        due("no changes", y.changed(-1), 0);
        sentence("24: .. false if there is none such, its ACCESS isn't 0, its ELEMENTS lie in one another (stride below its bytes)");
        noSuchView(7, v -> !x.sort(v));
        ByteViews z = Feeder.with("a u8 at 0 x 3 ro; b u8 at 0 x 3 ones; c u8 at 0 x 3 reads; d u16 at 0 x 3 by 1; e u32 at 0 x 3 by 3; f s64 at 0 x 3 by 7; g u16 at 0 x 3 by 2;"
            + "h s64 at 0 x 3 by 9; i f32 at 0 x 2 by 3; j u32 at 0 x 2 by 4;");
        pokes(z, 0, 9, 8, 7, 6, 5, 4, 3, 2, 1);
        boolean[] good = {false, false, false, false, false, false, true, true, false, true};
        for (int v = 0; v < good.length; v++) {
            due("sort(" + v + ")", z.sort(v), good[v]);
            if (!good[v]) {
                due("nothing is sorted by view " + v, z.look(6), 45);
                due("nor changed by view " + v, z.changed(-1) > 0, true);
            }
        }
    }

    private static void fill() {
        sentence("25: All ELEMENTS of a VIEW, from 0 on, are WRITTEN WHOLE: how many");
        ByteViews x = Feeder.with("a u8 at 0 x 64; b u16 at 0 x 3 by 1; o u8 at 0 x 4 ones; f f32 at 8; k u8 at 0 x 2 ro; r u8 at 0 reads; l u16 at 0 x 2 by 1 ones; s s64 at 56;");
        due("all 64", x.fill(0, 511), 64);
        due("all are 255", x.look(6), 64 * 255);
        due("later ones over earlier ones", x.fill(1, 0x102), 3);
        bytes("later ones over earlier ones", x, 0, 2, 2, 2, 1, 255);
        due("ones", x.fill(2, 2), 4);
        bytes("ones", x, 0, 0, 0, 0, 1);
        due("a float", x.fill(3, -1), 1);
        due("a float", x.peek(3, 0), Float.floatToIntBits(-1f));
        due("reads", x.fill(5, 6), 1);
        due("reads", x.at(0), 6);
        pokes(x, 0, 255, 255, 255);
        due("ones in one another", x.fill(6, 0x0201), 2);
        bytes("ones in one another", x, 0, 254, 252, 253);
        due("the least long", x.fill(7, Long.MIN_VALUE), 1);
        due("the least long", x.peek(7, 0), Long.MIN_VALUE);
        sentence("25: .. NONE if there is none such, it is ro");
        due("ro", x.fill(4, 1), -1);
        bytes("nothing is written", x, 0, 254, 252);
        noSuchView(4, v -> x.fill(v, 1) == -1 || v >= 5 && v <= 7);
    }

    private static void roll() {
        sentence("26: ELEMENT i of a VIEW gets what ELEMENT i and n more (round, n 0 .. 64) has: bit by bit, all READ ahead (as peek(), whatever ACCESS), laid from 0 on: true");
        for (int many : new int[] {1, 2, 5, 63, 64}) {
            for (int n : new int[] {0, 1, many - 1, many, many + 1, 63, 64}) {
                if (n > 64) {
                    continue;
                }
                ByteViews x = Feeder.with("a u8 at 0 x " + many + ";");
                for (int i = 0; i < many; i++) {
                    x.poke(i, i + 1);
                }
                due("roll of " + many + " by " + n, x.roll(0, n), true);
                for (int i = 0; i < many; i++) {
                    due("element " + i + " of " + many + " by " + n, x.at(i), (i + n) % many + 1);
                }
            }
        }
        ByteViews x = Feeder.with("a u16 at 0 x 3 by 1; o u8 at 8 x 3 ones; r u8 at 12 x 3 reads; f f32 big at 16 x 2; k u8 at 24 x 2 ro; d f64 at 32 x 2 by 9;");
        pokes(x, 0, 1, 2, 3, 4);
        due("in one another", x.roll(0, 2), true);
        bytes("all read ahead", x, 0, 3, 1, 2, 3);
        pokes(x, 8, 1, 2, 3, 9, 4, 5, 6, 9);
        due("ones", x.roll(1, 1), true);
        due("reads", x.roll(2, 2), true);
        bytes("whatever access", x, 8, 2, 3, 1, 9, 6, 4, 5, 9);
        pokes(x, 16, 0xff, 0x80, 0, 1, 0x7f, 0xff, 2, 3);
        due("NaNs", x.roll(3, 1), true);
        bytes("bit by bit", x, 16, 0x7f, 0xff, 2, 3, 0xff, 0x80, 0, 1);
        pokes(x, 32, 1, 0, 0, 0, 0, 0, 0xf8, 0xff, 77);
        due("a NaN of f64", x.roll(5, 1), true);
        bytes("bit by bit, between stays", x, 39, 0, 77, 1, 0, 0, 0, 0, 0, 0xf8, 0xff);
        sentence("26: .. false if there is none such, another n, it is ro");
        int[] none = {-1, 65, 66, 128, MAX, MIN};
        for (int n : none) {
            due("roll by " + n, x.roll(0, n), false);
        }
        pokes(x, 24, 1, 2);
        due("ro", x.roll(4, 1), false);
        due("ro by 0", x.roll(4, 0), false);
        bytes("nothing is laid", x, 24, 1, 2);
        noSuchView(4, v -> !x.roll(v, 1) || v == 5);
    }

    private static void show() {
        sentence("27: A VIEW is SHOWN as VIEW of a TEXT: one blank between WORDS and NUMBERS, none else; \"x\" if it has more than one ELEMENT or another stride than its bytes, \"by\" if another stride; no blank in { }: how many bytes");
        String[][] told = {
            {"a u8 at 0", "a u8 at 0"}, {"a u8 at 000 x 1", "a u8 at 0"}, {"a u8 at 0 x 1 by 1", "a u8 at 0"}, {"a u8 at 0 x 2", "a u8 at 0 x 2"},
            {"a u8 at 0 x 2 by 1", "a u8 at 0 x 2"}, {"a u8 at 9 x 1 by 2", "a u8 at 9 x 1 by 2"}, {"a u16 at 10 x 1 by 1", "a u16 at 10 x 1 by 1"},
            {"a u32 at 99 x 9 by 4", "a u32 at 99 x 9"}, {"a u32 at 100 x 10 by 3", "a u32 at 100 x 10 by 3"}, {"a s64 big at 248", "a s64 big at 248"},
            {"a u8 at 255 ro", "a u8 at 255 ro"}, {"a f32 at 0 ones", "a f32 at 0 ones"}, {"a f64\nbig\nat\n0\nx\n4\nby\n64\nreads", null},
            {"abcdef s8 at 192 x 64 by 001 ro", "abcdef s8 at 192 x 64 ro"}, {"a u8 at 0 { b : 0 - 7 }", "a u8 at 0{b:0-7}"},
            {"z9 s16 at 7 x 3 by 10 reads{abcdef:00-015,c:9-10,d:10-10}", "z9 s16 at 7 x 3 by 10 reads{abcdef:0-15,c:9-10,d:10-10}"},
            {"a s32 at 1{b:31-31}", "a s32 at 1{b:31-31}"}, {"a s64 at 1{b:1-63,c:0-62}", "a s64 at 1{b:1-63,c:0-62}"}};
        for (String[] t : told) {
            ByteViews y = new ByteViews();
            y.memory(256);
            String want = t[1] == null ? "a f64 big at 0 x 4 by 64 reads" : t[1];
            Feeder.views(y, t[0] + ";");
            due("length of " + want, y.show(0), want.length());
            Feeder.due("shown of " + t[0], Feeder.shown(y, 0), want);
            due("it can be told again", Feeder.views(y, want + ";"), 1);
            Feeder.due("shown again of " + t[0], Feeder.shown(y, 0), want);
        }
        ByteViews x = new ByteViews();
        x.memory(256);
        StringBuilder fields = new StringBuilder("abcdef s64 big at 199 x 50 by 1 reads{");
        for (char c = 'a'; c < 'i'; c++) {
            fields.append(c == 'a' ? "" : ",").append(c).append("bcdef:10-63");
        }
        String longest = fields + "}";
        Feeder.views(x, longest + ";");
        Feeder.due("the longest", Feeder.shown(x, 0), longest);
        x.turn(0);
        Feeder.due("turned", Feeder.shown(x, 0), longest.replace(" big", ""));
        sentence("27: .. NONE if there is none such");
        noSuchView(1, v -> x.show(v) == -1);
        due("without views", new ByteViews().show(0), -1);
    }

    private static void out() {
        sentence("28: The i-th byte of what was SHOWN latest");
        ByteViews x = Feeder.with("a u8 at 0; bc s16 big at 12;");
        x.show(1);
        String want = "bc s16 big at 12";
        for (int i = 0; i < want.length(); i++) {
            due("out(" + i + ")", x.out(i), want.charAt(i));
        }
        due("behind the last", x.out(want.length()), -1);
        x.show(2);
        due("a show() that is refused leaves it", x.out(0), 'b');
        x.memory(9);
        Feeder.views(x, "z u8 at 0;");
        due("so do other calls", x.out(0), 'b');
        x.show(0);
        due("a shorter one", x.out(8), '0');
        due("behind it", x.out(9), -1);
        due("its first", x.out(0), 'z');
        sentence("28: .. NONE if there is none such");
        int[] none = {-1, 9, 10, 15, 255, 256, 500, MAX, MIN};
        for (int i : none) {
            due("out(" + i + ")", x.out(i), -1);
        }
        due("before any was shown", new ByteViews().out(0), -1);
    }

    private static void find() {
        sentence("29: The first ELEMENT from i on (0 .. how many) that is alike x (WHOLE; FLOATS: == (double) x)");
        ByteViews x = Feeder.with("a u8 at 0 x 64; s s8 at 0 x 3; f f32 at 8 x 4; d f64 at 24 x 3; r u8 at 0 x 3 reads; m s64 at 56;");
        pokes(x, 0, 255, 7, 255);
        x.poke(63, 99);
        due("the first", x.find(0, 0, 255), 0);
        due("from it on", x.find(0, 2, 255), 2);
        due("behind it", x.find(0, 1, 255), 2);
        due("the last", x.find(0, 0, 99), 63);
        due("the last from it on", x.find(0, 63, 99), 63);
        due("from how many on", x.find(0, 64, 99), -1);
        due("s8", x.find(1, 0, -1), 0);
        due("s8 isn't 255", x.find(1, 0, 255), -1);
        due("x isn't cut", x.find(0, 0, 256 + 7), -1);
        x.writeFloat(2, 0, NAN);
        x.writeFloat(2, 1, bits(0.5));
        x.writeFloat(2, 2, bits(-0.0));
        x.writeFloat(2, 3, bits(16777216));
        due("-0.0 is alike 0", x.find(2, 0, 0), 2);
        due("a float isn't rounded", x.find(2, 0, 16777217), -1);
        due("a float", x.find(2, 0, 16777216), 3);
        x.write(3, 0, Long.MAX_VALUE);
        x.write(3, 1, 1L << 53);
        x.writeFloat(3, 2, bits(Double.POSITIVE_INFINITY));
        due("x as a double", x.find(3, 0, Long.MAX_VALUE), 0);
        due("x as a double, by the even one", x.find(3, 0, (1L << 53) + 1), 1);
        due("x as a double, another one", x.find(3, 0, (1L << 53) + 2), -1);
        x.write(5, 0, Long.MIN_VALUE);
        due("the least long", x.find(5, 0, Long.MIN_VALUE), 0);
        due("reads", x.find(4, 0, 7), 1);
        bytes("nothing is cleared", x, 0, 255, 7, 255);
        sentence("29: .. NONE if there is none, or one can't be");
        due("there is none", x.find(0, 0, 200), -1);
        int[] none = {-1, 64, 65, MAX, MIN};
        for (int i : none) {
            due("find(0, " + i + ")", x.find(0, i, 0), -1);
        }
        due("from how many on is none", x.find(1, 3, 0), -1);
        x.memory(64);
        Feeder.views(x, "a u8 at 0; b u16 at 0; c f64 at 0;");
        noSuchView(3, v -> x.find(v, 0, 0) == -1);
    }

    private static void sum() {
        sentence("30: ELEMENTS together (as peek()): longs, which wrap; of f32, f64 doubles, added from 0 on, doubleToLongBits");
        ByteViews x = Feeder.with("a u8 at 0 x 64; s s8 at 0 x 64; m s64 at 0 x 3; d f64 at 0 x 3; f f32 at 32 x 2; r u8 at 40 x 2 reads; u u32 big at 44 x 2;");
        x.fill(0, 255);
        due("64 of 255", x.sum(0), 64 * 255);
        due("64 of -1", x.sum(1), -64);
        due("u32", x.sum(6), 2 * 0xffffffffL);
        x.write(2, 0, Long.MAX_VALUE);
        x.write(2, 1, 1);
        x.write(2, 2, 0);
        due("wraps", x.sum(2), Long.MIN_VALUE);
        x.write(2, 1, Long.MAX_VALUE);
        x.write(2, 2, 2);
        due("wraps round", x.sum(2), 0);
        x.writeFloat(3, 0, bits(1e16));
        x.writeFloat(3, 1, bits(1));
        x.writeFloat(3, 2, bits(-1e16));
        due("from 0 on", x.sum(3), bits(1e16 + 1 - 1e16));
        x.writeFloat(3, 0, bits(Double.MAX_VALUE));
        x.writeFloat(3, 1, bits(Double.MAX_VALUE));
        x.writeFloat(3, 2, bits(-Double.MAX_VALUE));
        due("infinite", x.sum(3), bits(Double.POSITIVE_INFINITY));
        x.writeFloat(3, 2, bits(Double.NEGATIVE_INFINITY));
        due("NaN", x.sum(3), NAN);
        x.writeFloat(4, 0, bits(Float.MAX_VALUE));
        x.writeFloat(4, 1, bits(Float.MAX_VALUE));
        due("f32 as doubles", x.sum(4), bits(2.0 * Float.MAX_VALUE));
        pokes(x, 40, 3, 4);
        due("reads", x.sum(5), 7);
        due("isn't cleared", x.sum(5), 7);
        sentence("30: .. NONE if there is none such");
        noSuchView(7, v -> x.sum(v) == -1);
    }

    private static void rest() {
        sentence("31: What is left of ELEMENT i of f32, f64 by x (its VALUE % (double) x), doubleToLongBits");
        ByteViews x = Feeder.with("d f64 at 0 x 2; f f32 big at 16 x 2 reads; a s64 at 24; u u8 at 32;");
        double[] values = {0.0, -0.0, 1, -1, 7.5, -7.5, 1e300, 4.9e-324, Double.MAX_VALUE, Double.NaN, Double.POSITIVE_INFINITY, Double.NEGATIVE_INFINITY};
        long[] by = {0, 1, -1, 2, -2, 7, (1L << 53) + 1, Long.MAX_VALUE, Long.MIN_VALUE};
        for (double value : values) {
            x.writeFloat(0, 1, bits(value));
            x.writeFloat(1, 1, bits(value));
            for (long b : by) {
                due(value + " by " + b, x.rest(0, 1, b), bits(value % (double) b));
                due((float) value + " by " + b, x.rest(1, 1, b), bits((double) (float) value % (double) b));
            }
        }
        x.writeFloat(1, 1, bits(7.5));
        x.rest(1, 1, 2);
        due("nothing is cleared", x.peek(1, 1), Float.floatToIntBits(7.5f));
        sentence("31: .. NONE if there is none such, another KIND");
        int[] none = {-1, 2, 64, MAX, MIN};
        for (int i : none) {
            due("rest(0, " + i + ")", x.rest(0, i, 2), -1);
            due("rest(1, " + i + ")", x.rest(1, i, 2), -1);
        }
        due("s64", x.rest(2, 0, 2), -1);
        due("u8", x.rest(3, 0, 2), -1);
        noSuchView(2, v -> x.rest(v, 0, 2) == -1);
        Feeder.views(x, "a u8 at 0; b s8 at 0; c u16 at 0; d s16 at 0; e u32 at 0; f s32 at 0; g s64 at 0;");
        for (int v = 0; v < 7; v++) {
            due("kind " + v, x.rest(v, 0, 1), -1);
        }
    }

    private static void undo() {
        sentence("32: The latest call that CHANGED MEMORY and isn't undone is undone (MEMORY alone; turn() stays turned): true");
        ByteViews x = Feeder.with("a u16 at 0 x 2; r u8 at 8 reads;");
        x.poke(0, 1);
        x.poke(0, 1);
        x.poke(1, 2);
        x.peek(0, 0);
        x.poke(1, 2);
        due("the latest that changed some", x.undo(), true);
        bytes("the latest that changed some", x, 0, 1, 0);
        due("the one ahead of it", x.undo(), true);
        bytes("the one ahead of it", x, 0, 0, 0);
        pokes(x, 0, 1, 2, 3, 4);
        x.turn(0);
        due("a turn()", x.undo(), true);
        bytes("a turn()", x, 0, 1, 2, 3, 4);
        due("it stays turned", x.view(0, 1), 1);
        due("its value then", x.peek(0, 0), 0x0102);
        Feeder.put(x, "abc");
        x.poke(9, 9);
        x.undo();
        due("the tape stays", x.look(4), 3);
        due("views stay", x.look(1), 2);
        x.end(0);
        Feeder.views(x, "z u8 at 0;");
        due("behind views() too", x.undo(), true);
        bytes("behind views() too", x, 0, 1, 2, 3, 0);
        due("views stay so", Feeder.named(x, "z"), 0);
        sentence("32: .. false if there is none");
        due("undo", x.undo(), true);
        due("undo", x.undo(), true);
        due("undo", x.undo(), true);
        due("none is left", x.undo(), false);
        due("nor again", x.undo(), false);
        due("a new object", new ByteViews().undo(), false);
        x.poke(0, 1);
        x.memory(64);
        due("behind memory()", x.undo(), false);
        x.poke(0, 0);
        due("behind one that changed none", x.undo(), false);
        sentence("32: .. (CHANGES are then those of the undoing.)");
        x.poke(5, 1);
        x.poke(6, 1);
        due("undo", x.undo(), true);
        due("one", x.changed(-1), 1);
        due("which", x.changed(0), 6);
        due("undo", x.undo(), true);
        due("which", x.changed(0), 5);
        due("refused", x.undo(), false);
        due("it stays", x.changed(0), 5);
        Feeder.views(x, "z u8 at 5 x 2;");
        due("seen", x.seen(0, 0), 0);
    }

    private static void look() {
        sentence("33: 0 BYTES of MEMORY, 1 VIEWS, 2 BYTES that are not 0, 3 calls that can be undone, 4 bytes of THE TAPE, 5 BYTES that no VIEW has, 6 the sum of all BYTES");
        ByteViews x = new ByteViews();
        x.memory(256);
        Feeder.views(x, "a u32 at 0 x 64; b u8 at 0;");
        x.fill(0, -1);
        Feeder.put(x, " ".repeat(500));
        int[] full = {256, 2, 256, 1, 500, 0, 256 * 255};
        for (int what = 0; what < 7; what++) {
            due("look(" + what + ") of all", x.look(what), full[what]);
        }
        x.end(0);
        Feeder.views(x, "a u16 at 1 x 2 by 64; b u8 at 100 x 2 by 1;");
        due("bytes without a view", x.look(5), 256 - 6);
        x.fill(0, 0);
        due("bytes that are not 0", x.look(2), 252);
        due("their sum", x.look(6), 252 * 255);
        due("two can be undone", x.look(3), 2);
        x.undo();
        due("one can", x.look(3), 1);
        x.memory(1);
        int[] least = {1, 0, 0, 0, 0, 1, 0};
        for (int what = 0; what < 7; what++) {
            due("look(" + what + ") of 1", x.look(what), least[what]);
        }
        sentence("33: .. NONE for another what");
        int[] others = {-1, 7, 8, MAX, MIN};
        for (int what : others) {
            due("look(" + what + ")", x.look(what), -1);
        }
    }

    private static void manyCalls() {
        sentence("An object is used for at most 512 calls after it has been made");
        ByteViews x = new ByteViews();
        for (int n = 1; n <= 503; n++) {
            due("call " + n, x.poke(n % 64, n), true);
        }
        for (int n = 503; n > 495; n--) {
            due("undoing call " + n, x.undo(), true);
        }
        due("the 512th call", x.at(495 % 64), 495 & 255);
        ByteViews y = Feeder.with("a s64 at 0;");
        for (int n = 1; n <= 240; n++) {
            y.feed(0x613d612b, 0x313b613d, 0x612b313b, 0x613d612b, 0x313b2020);
            due("script " + n, y.script(), 3);
        }
        due("what 240 scripts did", y.peek(0, 0), 720);
    }
}
