/**
 * The sentences of 'Terms' about memory, the tape and texts of views: for each that names an edge
 * the last that holds, the first that doesn't, and what is told then. A "^" in a text stands ahead
 * of what is at fault.
 */
public final class ViewEdgeTest {
    private static final String[] KINDS = {"u8", "s8", "u16", "s16", "u32", "s32", "s64", "f32", "f64"};
    private static final int[] BYTES = {1, 1, 2, 2, 4, 4, 8, 4, 8};
    private static final String[] TAKEN = {"big", "at", "x", "by", "ro", "ones", "reads", "if", "fail",
        "u8", "s8", "u16", "s16", "u32", "s32", "s64", "f32", "f64"};
    private static final int[] SIZES = {8, 9, 64, 255, 256};
    private static final String EIGHT = "b:0-0,c:0-0,d:0-0,e:0-0,f:0-0,g:0-0,h:0-0,i:0-0";

    private ViewEdgeTest() {
    }

    public static void main(String[] args) {
        memorySizes();
        sixteenViews();
        fullTape();
        toldAnew();
        partsOfViews();
        partsOfFields();
        words();
        names();
        takenNames();
        numbers();
        blanks();
        elements();
        bytesOfKinds();
        endings();
        signs();
        fieldBits();
        firstByPlace();
        placeOfTheEnd();
        leastNumber();
        whatCantStand();
        namesTwice();
        rowNumbers();
        elementZeroBeyond();
        lastElementBeyond();
        fieldNumbers();
        tooMany();
        Feeder.finish();
    }

    private static void sentence(String words) {
        Feeder.sentence(words);
    }

    private static void due(String what, long got, long want) {
        Feeder.due(what, got, want);
    }

    private static void due(String what, boolean got, boolean want) {
        Feeder.due(what, got, want);
    }

    private static void fault(int number, String... texts) {
        Feeder.viewsMarked(64, number, texts);
    }

    private static void good(String... texts) {
        Feeder.viewsMarked(64, 0, texts);
    }

    private static String sixteen() {
        StringBuilder s = new StringBuilder();
        for (char c = 'a'; c < 'a' + 16; c++) {
            s.append(c).append(" u8 at ").append(c - 'a').append(';');
        }
        return s.toString();
    }

    private static void memorySizes() {
        sentence("MEMORY: 1 .. 256 BYTES (64 at first), all 0");
        ByteViews x = new ByteViews();
        due("bytes at first", x.look(0), 64);
        for (int i = 0; i < 64; i++) {
            due("at(" + i + ") at first", x.at(i), 0);
        }
        due("at(64) at first", x.at(64), -1);
        due("memory(1)", x.memory(1), true);
        due("at(0) of 1", x.at(0), 0);
        due("at(1) of 1", x.at(1), -1);
        due("memory(256)", x.memory(256), true);
        due("at(256) of 256", x.at(256), -1);
        due("poke(255)", x.poke(255, 9), true);
        due("poke(64)", x.poke(64, 9), true);
        due("a smaller one", x.memory(64), true);
        due("at(64) of 64", x.at(64), -1);
        due("the largest again", x.memory(256), true);
        for (int i = 0; i < 256; i++) {
            due("at(" + i + ") again", x.at(i), 0);
        }
    }

    private static void sixteenViews() {
        sentence("VIEWS 0 .. 15");
        ByteViews x = new ByteViews();
        due("none at first", x.view(0, 0), -1);
        due("sixteen", Feeder.views(x, sixteen()), 16);
        for (int v = 0; v < 16; v++) {
            due("where view " + v + " is", x.view(v, 2), v);
        }
        due("view(16)", x.view(16, 2), -1);
        due("view(-1)", x.view(-1, 2), -1);
        due("none", Feeder.views(x, ""), 0);
        due("view(0)", x.view(0, 2), -1);
    }

    private static void fullTape() {
        sentence("THE TAPE (500 bytes)");
        ByteViews x = new ByteViews();
        String text = " ".repeat(486) + "last u8 at 63;";
        due("length of the text", text.length(), 500);
        due("its last byte is read", Feeder.views(x, text), 1);
        due("the view", Feeder.named(x, "last"), 0);
        Feeder.views(x, text.substring(1) + "!");
        due("a fault at the last byte", x.fault(1), 499);
        Feeder.views(x, " " + text.substring(1, 499) + " ");
        due("a fault at the end", x.fault(1), 500);
        due("a full tape of blanks", Feeder.views(x, "\n".repeat(500)), 0);
    }

    private static void toldAnew() {
        sentence("VIEWS .. told by a TEXT .. in place of those told ahead: { VIEW \";\" }");
        ByteViews x = Feeder.with("a u8 at 1 {p:0-1,q:2-3}; b u8 at 2; c u8 at 3;");
        due("fewer", Feeder.views(x, "c s16 big at 4;"), 1);
        due("a", Feeder.named(x, "a"), -1);
        due("c is another", Feeder.named(x, "c"), 0);
        due("where it is", x.view(0, 2), 4);
        due("its fields", x.view(0, 6), 0);
        due("big", x.view(0, 1), 1);
        due("nothing of the ones ahead", Feeder.views(x, "a u8 at 0;"), 1);
        int[] want = {0, 0, 0, 1, 1, 0, 0};
        for (int what = 0; what < 7; what++) {
            due("view(0, " + what + ")", x.view(0, what), want[what]);
        }
        due("none", Feeder.views(x, ""), 0);
        due("none are left", x.look(1), 0);
        fault(1, "a u8 at 0^", "a u8 at 0;^;", "^;", "a u8 at 0 ^b u8 at 0;");
    }

    private static void partsOfViews() {
        sentence("VIEW: NAME KIND [ \"big\" ] \"at\" NUMBER [ \"x\" NUMBER [ \"by\" NUMBER ] ] [ ACCESS ] [ \"{\" .. \"}\" ]");
        String[] rows = {"", " x 3", " x 3 by 9"};
        String[] accesses = {"", " ro", " ones", " reads"};
        for (int n = 0; n < 2 * 3 * 4 * 2; n++) {
            int row = n / 2 % 3;
            int access = n / 6 % 4;
            int fields = n / 24;
            String text = "v u16" + (n % 2 == 1 ? " big" : "") + " at 7" + rows[row] + accesses[access]
                + (fields == 1 ? " {p:0-3}" : "") + ";";
            int[] want = {2, n % 2, 7, row == 0 ? 1 : 3, row == 2 ? 9 : 2, access, fields};
            ByteViews x = Feeder.with(text);
            for (int what = 0; what < 7; what++) {
                due("view(0, " + what + ") of " + text, x.view(0, what), want[what]);
            }
        }
        fault(1, "^u8 at 0;", "a ^at 0;", "a ^big at 0;", "a u8 ^0;", "a u8 big ^0;", "a u8 big ^big at 0;",
            "a u8 at ^;", "a u8 at 0 ^1;", "a u8 at 0 x ^;", "a u8 at 0 x 1 ^x 1;", "a u8 at 0 x 1 by ^;",
            "a u8 at 0 ^by 1;", "a u8 at 0 x 1 by 1 ^by 1;", "a u8 at 0 ro ^x 1;", "a u8 at 0 ro ^ro;",
            "a u8 at 0 ones ^reads;", "a u8 at 0 {b:0-0} ^ro;", "a u8 at 0 {b:0-0} ^{c:0-0};",
            "a u8 at 0 ^big;", "a u8 at ^-1;", "a ^a u8 at 0;", "a u8 ^u8 at 0;", "a u8 at 0 x 1 by 1 ^2;",
            "a u8 at 0 x 1 ^at 0;", "a u8 at 0 ^};", "a u8 at 0^,", "a u8 at 0 ^wo;");
    }

    private static void partsOfFields() {
        sentence("[ \"{\" FIELD { \",\" FIELD } \"}\" ]. FIELD: NAME \":\" NUMBER \"-\" NUMBER");
        ByteViews x = Feeder.with("a u8 at 0 {b:0-3}; c u16 at 0 {d:1-2,e:15-15,f:0-0};");
        due("one", x.view(0, 6), 1);
        due("three", x.view(1, 6), 3);
        x.write(1, 0, 0x8004);
        due("the first", x.field(1, 0, 0), 2);
        due("the second", x.field(1, 0, 1), 1);
        due("the third", x.field(1, 0, 2), 0);
        fault(1, "a u8 at 0 {^};", "a u8 at 0 {^,b:0-1};", "a u8 at 0 {b:0-1,^};", "a u8 at 0 {b:0-1 ^c:0-1};",
            "a u8 at 0 {b^};", "a u8 at 0 {b:^};", "a u8 at 0 {b:0^};", "a u8 at 0 {b:0-^};", "a u8 at 0 {b:0-1^;",
            "a u8 at 0 {b:0-1^", "a u8 at 0 {^0-1};", "a u8 at 0 {b^-0:1};", "a u8 at 0 {b:0^:1};",
            "a u8 at 0 {b:^-1};", "a u8 at 0 {b:0-1}^", "a u8 at 0 {b:0-1^-2};", "a u8 at 0 {^{b:0-1}};",
            "a u8 at 0 {b:0-1}^};", "a u8 at 0 {b:0-1,^,c:0-1};", "a u8 at 0 {b:0-1^:c:0-1};",
            "a u8 at 0 {b^=0-1};", "a u8 at 0 ^[b:0-1];", "a u8 at 0 ^(b:0-1);");
    }

    private static void words() {
        sentence("WORDS: a letter a .. z and letters, digits as far as they stand together");
        good("a u8 at 0; z u8 at 0; az09za u8 at 0; z9 u8 at 0;");
        good("a u8 at 0x 1by 1ro;", "a u8 at 0ro;", "a u8 at 0{b:0-1};");
        fault(1, "^A u8 at 0;", "^Z u8 at 0;", "^` u8 at 0;", "^{ u8 at 0;", "^@ u8 at 0;", "^[ u8 at 0;",
            "^0 u8 at 0;", "^9a u8 at 0;", "^_ u8 at 0;", "^\u00e9 u8 at 0;", "^\u00e1 u8 at 0;", "^\u0000 u8 at 0;");
        fault(1, "a^A u8 at 0;", "a^_b u8 at 0;", "a^/ u8 at 0;", "a^: u8 at 0;", "a^` u8 at 0;", "a^\u00e9 u8 at 0;",
            "a u8^A at 0;", "a u8 at ^/;", "a u8 at ^:;", "a u8 at 0^/;", "a u8 at 0^:;");
        fault(1, "a ^u8at 0;", "a u8 ^at0;", "a u8 at 0 ^x1;", "a u8 at 0 x 1 ^by1;", "au8 ^at 0;",
            "a u8 ^bigat 0;", "a u8 at 0 ^rox;", "a ^u 8 at 0;", "a u8 ^a t 0;", "a ^U8 at 0;", "a u8 ^AT 0;");
    }

    private static void names() {
        sentence("NAMES: WORDS of 1 to 6");
        good("a u8 at 0 {b:0-1};", "abcdef u8 at 0 {ghijkl:0-1};", "a12345 u8 at 0 {b12345:0-1};");
        fault(1, "^abcdefg u8 at 0;", "^a123456 u8 at 0;", "a u8 at 0 {^abcdefg:0-1};", "a u8 at 0; ^abcdefg u8 at 0;",
            "^" + "a".repeat(480) + " u8 at 0;", "a u8 at 0 {b:0-1,^a123456:0-1};");
        ByteViews x = Feeder.with("abcdef u8 at 0; abcdeg u8 at 1; bbcdef u8 at 2; abcde u8 at 3; a u8 at 4;");
        due("all its signs count", Feeder.named(x, "abcdeg"), 1);
        due("the first as well", Feeder.named(x, "bbcdef"), 2);
        due("how many as well", Feeder.named(x, "abcde"), 3);
        due("one sign", Feeder.named(x, "a"), 4);
    }

    private static void takenNames() {
        sentence("NAMES: .. that are none of these: big, at, x, by, ro, ones, reads, if, fail, a KIND");
        for (String word : TAKEN) {
            fault(1, "^" + word + " u8 at 0;", "a u8 at 0 {^" + word + ":0-1};", "k u8 at 0; ^" + word + " u8 at 0;");
            Feeder.scriptsMarked("a u8 at 0 {b:0-1};", 1, "a.^" + word + " = 1;", "a = a.^" + word + ";", "a = ^" + word + ";");
            if (!word.equals("if") && !word.equals("fail")) {
                Feeder.scriptsMarked("a u8 at 0;", 1, "^" + word + " = 1;");
            }
            ByteViews x = Feeder.with("a u8 at 0;");
            due("named " + word, Feeder.named(x, word), -1);
        }
        good("bi u8 at 0; bigg u8 at 0; a u8 at 0; att u8 at 0; xx u8 at 0; b u8 at 0; byy u8 at 0; r u8 at 0;",
            "one u8 at 0; oness u8 at 0; read u8 at 0; i u8 at 0; iff u8 at 0; fai u8 at 0; fails u8 at 0;",
            "u u8 at 0; u9 u8 at 0; u64 u8 at 0; s u8 at 0; f16 u8 at 0; f8 u8 at 0; s128 u8 at 0; gib u8 at 0;",
            "a u8 at 0 {ifs:0-1,u1:0-1,f:0-1,at0:0-1,x0:0-1};");
    }

    private static void numbers() {
        sentence("NUMBER: 1 to 3 digits that stand together");
        good("a u8 at 0 x 1 by 1 {b:0-7};", "a u8 at 00 x 01 by 01 {b:00-07};", "a u8 at 000 x 001 by 001 {b:000-007};");
        fault(1, "a u8 at ^0000;", "a u8 at 0 x ^0001;", "a u8 at 0 x 1 by ^0001;", "a u8 at 0 {b:^0000-1};",
            "a u8 at 0 {b:0-^0001};", "a u8 at ^1000;", "a u8 at ^" + "9".repeat(480) + ";",
            "a u8 at ^18446744073709551616;", "a u8 at ^4294967296;");
        fault(1, "a u8 at 0 ^0;", "a u8 at 0 x 1 ^2;", "a u8 at 0 x 1 by 1 ^0;", "a u8 at 0 {b:0 ^0-1};", "a u8 at 1\n^1;");
        Feeder.viewsMarked(256, 0, "a u8 at 255;", "a u8 at 099;");
        ByteViews x = new ByteViews();
        x.memory(256);
        Feeder.views(x, "a u8 at 199 x 056;");
        due("three digits", x.view(0, 2), 199);
        due("with a 0 ahead", x.view(0, 3), 56);
    }

    private static void blanks() {
        sentence("Blanks (32, 10) between all where one likes");
        good("a u8 big at 0 x 1 by 1 ro { b : 0 - 1 , c : 2 - 3 } ;", "\na\nu8\nbig\nat\n0\nx\n1\nby\n1\nro\n{\nb\n:\n0\n-\n1\n}\n;\n",
            " \n a \n u8 \n at \n 0 \n ; \n ", "a u8 at 0{b:0-1,c:2-3};d u8 at 0;", "  ", "\n", " \n");
        int[] others = {0, 9, 11, 12, 13, 31, 33, 127, 128, 133, 138, 160, 255};
        for (int sign : others) {
            char c = (char) sign;
            fault(1, "^" + c + "a u8 at 0;", "a^" + c + "u8 at 0;", "a u8 at 0^" + c + ";", "a u8 at 0;^" + c);
            Feeder.scriptsMarked("a u8 at 0;", 1, "^" + c + "a=1;", "a^" + c + "=1;", "a=1^" + c + ";", "a=1;^" + c);
        }
        Feeder.scriptsMarked("a u8 at 0 x 2 {b:0-3};", 0, " a [ 1 ] . b = - ( 1 . 5 + a [ 0 ] . b ) < 2 ; ",
            "\na\n[\n1\n]\n.\nb\n=\n-\n(\n1\n.\n5\n)\n;\nif\n1\n(\nfail\n;\n)\n", "a[1].b=-(1.5+a[0].b)<2;if 1(fail;)");
    }

    private static void elements() {
        sentence("An ELEMENT i of a VIEW (0 .. how many behind x less 1; 1 without)");
        ByteViews x = Feeder.with("a u8 at 1; b u8 at 1 x 3; c u8 at 0 x 64; d u8 at 1 x 1;");
        int[] many = {1, 3, 64, 1};
        for (int v = 0; v < 4; v++) {
            due("how many of " + v, x.view(v, 3), many[v]);
            due("the last of " + v, x.peek(v, many[v] - 1), 0);
            due("behind the last of " + v, x.peek(v, many[v]), Long.MIN_VALUE + 7);
            due("ahead of the first of " + v, x.peek(v, -1), Long.MIN_VALUE + 7);
            due("far of " + v, x.peek(v, Integer.MAX_VALUE), Long.MIN_VALUE + 7);
            due("far below of " + v, x.peek(v, Integer.MIN_VALUE), Long.MIN_VALUE + 7);
        }
        sentence("lies at the NUMBER behind at and i times the one behind by (without: its KIND's bytes)");
        for (int k = 0; k < KINDS.length; k++) {
            ByteViews y = Feeder.with("a " + KINDS[k] + " at 3 x 4; b " + KINDS[k] + " at 3 x 4 by 13; c " + KINDS[k] + " at 3 x 4 by 1;");
            int[] strides = {BYTES[k], 13, 1};
            for (int v = 0; v < 3; v++) {
                y.poke(3 + 2 * strides[v], 1);
                due("element 2 of " + KINDS[k] + " by " + strides[v], y.peek(v, 2) != 0, true);
                due("element 3 of " + KINDS[k] + " by " + strides[v], y.peek(v, 3), 0);
                y.undo();
            }
        }
    }

    private static void bytesOfKinds() {
        sentence("(without: its KIND's bytes): 1, 1, 2, 2, 4, 4, 8, 4, 8 bytes");
        for (int k = 0; k < KINDS.length; k++) {
            ByteViews x = Feeder.with("a " + KINDS[k] + " at 4;");
            due("stride of " + KINDS[k], x.view(0, 4), BYTES[k]);
            due("bytes of " + KINDS[k], x.over(0, 0), BYTES[k]);
            for (int i = 0; i < 64; i++) {
                boolean within = i >= 4 && i < 4 + BYTES[k];
                due("here(" + i + ") of " + KINDS[k], x.here(i), within ? 1 : 0);
            }
        }
    }

    private static void endings() {
        sentence("with big the highest first, else the lowest");
        long[] small = {0x81, (byte) 0x81, 0x8281, (short) 0x8281, 0x84838281L, 0x84838281, 0x8887868584838281L,
            0x84838281, 0x8887868584838281L};
        long[] large = {0x81, (byte) 0x81, 0x8182, (short) 0x8182, 0x81828384L, 0x81828384, 0x8182838485868788L,
            0x81828384, 0x8182838485868788L};
        for (int k = 0; k < KINDS.length; k++) {
            ByteViews x = Feeder.with("a " + KINDS[k] + " at 1; b " + KINDS[k] + " big at 1;");
            Feeder.pokes(x, 0, 0x80, 0x81, 0x82, 0x83, 0x84, 0x85, 0x86, 0x87, 0x88, 0x89);
            due(KINDS[k], x.peek(0, 0), small[k]);
            due(KINDS[k] + " big", x.peek(1, 0), large[k]);
        }
        ByteViews x = Feeder.with("a u32 at 0; b u32 big at 4; c u16 at 8; d u16 big at 10; e s64 at 16; f s64 big at 24;");
        x.write(0, 0, 0x01020304);
        x.write(1, 0, 0x01020304);
        x.write(2, 0, 0x0102);
        x.write(3, 0, 0x0102);
        x.write(4, 0, 0x0102030405060708L);
        x.write(5, 0, 0x0102030405060708L);
        Feeder.bytes("written", x, 0, 4, 3, 2, 1, 1, 2, 3, 4, 2, 1, 1, 2, 0, 0, 0, 0, 8, 7, 6, 5, 4, 3, 2, 1, 1, 2, 3, 4, 5, 6, 7, 8);
    }

    private static void signs() {
        sentence("u KINDS are never below 0");
        ByteViews x = Feeder.with("a u8 at 0; b s8 at 0; c u16 at 0; d s16 at 0; e u32 at 0; f s32 at 0; g s64 at 0;");
        Feeder.pokes(x, 0, 255, 255, 255, 255, 255, 255, 255, 255);
        long[] ones = {255, -1, 65535, -1, 4294967295L, -1, -1};
        for (int v = 0; v < 7; v++) {
            due("all ones of view " + v, x.peek(v, 0), ones[v]);
        }
        long[] tops = {128, -128, 32768, -32768, 1L << 31, -(1L << 31), Long.MIN_VALUE};
        for (int v = 0; v < 7; v++) {
            x.write(6, 0, 0);
            x.poke(BYTES[v] - 1, 128);
            due("the top bit of view " + v, x.peek(v, 0), tops[v]);
            x.poke(BYTES[v] - 1, 127);
            due("below the top bit of view " + v, x.peek(v, 0), 127L << 8 * (BYTES[v] - 1));
        }
    }

    private static void fieldBits() {
        sentence("FIELD: bits from a low to a high one (0 the lowest), never below 0");
        for (int k = 0; k < 7; k++) {
            int bits = 8 * BYTES[k];
            int most = Math.min(bits, 63);
            for (String big : new String[] {"", " big"}) {
                ByteViews x = Feeder.with("a " + KINDS[k] + big + " at 0 {all:0-" + (most - 1) + ",top:" + (bits - 1) + "-" + (bits - 1)
                    + ",low:0-0,mid:2-4,high:" + (bits - most) + "-" + (bits - 1) + "};");
                x.write(0, 0, -1);
                due("all of " + KINDS[k] + big, x.field(0, 0, 0), most == 63 ? Long.MAX_VALUE : (1L << most) - 1);
                due("top of " + KINDS[k] + big, x.field(0, 0, 1), 1);
                due("low of " + KINDS[k] + big, x.field(0, 0, 2), 1);
                due("mid of " + KINDS[k] + big, x.field(0, 0, 3), 7);
                due("high of " + KINDS[k] + big, x.field(0, 0, 4), most == 63 ? Long.MAX_VALUE : (1L << most) - 1);
                x.write(0, 0, 1);
                due("low alone of " + KINDS[k] + big, x.field(0, 0, 2), 1);
                due("not top of " + KINDS[k] + big, x.field(0, 0, 1), 0);
                x.write(0, 0, 1L << bits - 1);
                due("top alone of " + KINDS[k] + big, x.field(0, 0, 1), 1);
                due("not low of " + KINDS[k] + big, x.field(0, 0, 2), 0);
                x.write(0, 0, 0x22);
                due("bits beside mid of " + KINDS[k] + big, x.field(0, 0, 3), 0);
                x.write(0, 0, 0x14);
                due("bits of mid of " + KINDS[k] + big, x.field(0, 0, 3), 5);
            }
        }
    }

    private static void firstByPlace() {
        sentence("FAULTS, the first by its place");
        fault(1, "^; a u8 at 99;", "^A a u8 at 0; a u8 at 0;");
        fault(3, "a u8 at ^99; a u8 at 0;", "a u8 at ^99 ! ;", "a u8 at ^64 x 0;", "a u8 at 0 x ^0 by 0;", "a u8 at 0 x ^65 by 1000;",
            "a f32 at ^61 {b:0-1};", "a u8 at 0 {b:0-^8,b:0-1};", "a u8 at 60 x ^5 wo;", "a u8 at 60 x ^5", "a u8 at 60 x 2 by ^4 wo;",
            "a u8 at 0 x 2 by ^0 {b:9-9};", "a u8 at 0 {b:^8-1000};", "a u8 at 0 {b:1-^0 c:0-1};");
        fault(2, "a u8 at 0; ^a u9 at 99;", "a u8 at 0 {b:0-1,^b 9-9};");
        fault(4, "a f32 at 0 ^{b:9-9};", "a f64 at 0 ^{};", sixteen() + "^q u9 at 99;");
        fault(1, "a u8 at 0 {^0;", "a u8 ^on 99;", "a u8 at 0 x 2 by ^wo;", "a u8 at 60 x 5 by ^", "a u8 at 60 x 5 by ^1000;");
    }

    private static void placeOfTheEnd() {
        sentence("its place (from 0; the end: its length)");
        fault(1, "^!", "^1", "a^", "a ^", "a u8^", "a u8 at^", "a u8 at 0^", "a u8 at 0 \n ^", "a u8 at 0 x^", "a u8 at 0 x 1 by^",
            "a u8 at 0 ro^", "a u8 at 0{^", "a u8 at 0{b^", "a u8 at 0{b:^", "a u8 at 0{b:0^", "a u8 at 0{b:0-^", "a u8 at 0{b:0-1^",
            "a u8 at 0{b:0-1,^", "a u8 at 0{b:0-1}^", "a u8 at 0; b^");
        ByteViews x = new ByteViews();
        Feeder.put(x, "a u8 at 0;");
        x.end(8);
        x.views();
        due("the end is where end() put it", x.fault(1), 8);
        good("");
    }

    private static void leastNumber() {
        sentence("of one place the least number");
        String full = "a u8 at 0 {" + EIGHT;
        fault(1, sixteen() + "^at u8 at 0;", sixteen() + "^abcdefg u8 at 0;", sixteen() + "^;", full + ",^ro:0-1};", full + ",^};",
            full + ",^abcdefg:0-1};");
        fault(2, sixteen() + "^p u8 at 0;", sixteen() + "^a u8 at 0;", full + ",^i:0-1};", full + ",^b:0-1};");
        fault(3, "a u8 at 0 x 64 by ^65;", "a u8 at 0 {b:1-^0};", "a u8 at 0 {b:0-^64};", "a s64 at 0 {b:0-^64};");
        Feeder.scriptsMarked("a u8 at 0;", 1, "(((((a^(=1;)))))", "a=(((((1^(1)))));", "(((((a=1^(;)))))");
    }

    private static void whatCantStand() {
        sentence("1 what can't stand there (a WORD that is too long or none of what may stand there; a NUMBER of too many digits; at its begin)");
        String[] parts = {"a", "u8", "at", "0", "x", "2", "by", "3", "{", "b", ":", "0", "-", "1", "}", ";"};
        String[] wrong = {"toolong", "12345", "wo", "!", "=", "fail", "}", "."};
        for (int n = 0; n < parts.length; n++) {
            StringBuilder head = new StringBuilder();
            for (int k = 0; k < n; k++) {
                head.append(parts[k]).append(' ');
            }
            for (String w : wrong) {
                boolean stands = w.equals(parts[n]) || w.equals("wo") && (n == 0 || n == 9);
                if (!stands) {
                    fault(1, head + "^" + w + " " + String.join(" ", parts).substring(head.length()));
                }
            }
        }
        good(String.join(" ", parts));
    }

    private static void namesTwice() {
        sentence("2 a NAME that a VIEW (a FIELD of the same VIEW) has already");
        fault(2, "a u8 at 0; ^a u8 at 0;", "a u8 at 0; b u8 at 0; ^a s16 at 2;", "a u8 at 0; b u8 at 0; ^b u8 at 0;",
            "abcdef u8 at 0; ^abcdef u8 at 0;", "a u8 at 0 {b:0-1,^b:2-3};", "a u8 at 0 {b:0-1,c:0-1,^b:2-3};", "a u8 at 0 {b:0-1,c:0-1,^c:2-3};",
            "z u8 at 0 {b:0-1}; a u8 at 0 {c:0-1,^c:2-3};");
        good("a u8 at 0 {a:0-1};", "a u8 at 0 {b:0-1}; b u8 at 0 {a:0-1,b:0-1};", "a u8 at 0; ab u8 at 0; aa u8 at 0; ba u8 at 0;",
            "keep u8 at 1;", "a u8 at 0 {b:0-1}; c u8 at 0 {b:0-1};");
    }

    private static void rowNumbers() {
        sentence("3 a NUMBER that can't be (x, by 1 .. 64");
        good("a u8 at 0 x 1;", "a u8 at 0 x 64;", "a u8 at 0 x 1 by 1;", "a u8 at 0 x 1 by 64;", "a s64 at 56 x 1 by 64;", "a u8 at 0 x 64 by 1;");
        fault(3, "a u8 at 0 x ^0;", "a u8 at 0 x ^000;", "a u8 at 0 x ^65;", "a u8 at 0 x ^999;", "a u8 at 0 x 1 by ^0;", "a u8 at 0 x 1 by ^65;",
            "a u8 at 0 x 1 by ^999;", "a u8 at 0 x 2 by ^0;", "a u8 at 0 x ^65 by 1;", "a u8 at 0 x ^0 by 1;");
        Feeder.viewsMarked(256, 3, "a u8 at 0 x ^65;", "a u8 at 0 x 2 by ^65;", "a u8 at 0 x ^65 by 1;", "a u8 at 0 x 1 by ^65;");
        Feeder.viewsMarked(256, 0, "a u8 at 0 x 64;", "a u8 at 0 x 2 by 64;", "a u32 at 0 x 64;", "a u32 at 0 x 64 by 4;");
    }

    private static void elementZeroBeyond() {
        sentence("3 .. ELEMENT 0 beyond MEMORY: at's");
        for (int size : SIZES) {
            for (int k = 0; k < KINDS.length; k++) {
                int last = size - BYTES[k];
                Feeder.viewsMarked(size, 0, "a " + KINDS[k] + " at " + last + ";", "a " + KINDS[k] + " big at " + last + " x 1 by 64;");
                Feeder.viewsMarked(size, 3, "a " + KINDS[k] + " at ^" + (last + 1) + ";", "a " + KINDS[k] + " big at ^" + (last + 1) + " x 1 by 1;",
                    "a " + KINDS[k] + " at ^" + size + " x 2;", "a " + KINDS[k] + " at ^999;");
            }
        }
        Feeder.viewsMarked(1, 0, "a u8 at 0;", "a s8 at 0;");
        Feeder.viewsMarked(1, 3, "a u16 at ^0;", "a f64 at ^0;", "a u8 at ^1;");
    }

    private static void lastElementBeyond() {
        sentence("3 .. the last ELEMENT beyond it: by's, without by x's");
        for (int k = 0; k < KINDS.length; k++) {
            int fit = 64 / BYTES[k];
            String head = "a " + KINDS[k] + " at 0 x ";
            good(head + fit + ";", head + fit + " by " + BYTES[k] + ";");
            if (fit < 64) {
                fault(3, head + "^" + (fit + 1) + ";", head + "^" + (fit + 1) + " ro;", head + (fit + 1) + " by ^" + BYTES[k] + ";",
                    head + (fit + 1) + " by ^" + BYTES[k] + " ro;");
            }
            int stride = 64 - BYTES[k];
            good(head + "2 by " + stride + ";", head + (stride + 1 > 64 ? 64 : stride + 1) + " by 1;");
            fault(3, head + "2 by ^" + (stride + 1) + ";");
            if (stride + 2 <= 64) {
                fault(3, head + (stride + 2) + " by ^1;");
            }
        }
        fault(3, "a u8 at 1 x ^64;", "a u8 at 63 x ^2;", "a u8 at 1 x 64 by ^1;", "a u8 at 63 x 2 by ^1;", "a u8 at 0 x 64 by ^2;");
        good("a u8 at 1 x 63;", "a u8 at 62 x 2;", "a u8 at 1 x 63 by 1;", "a s64 at 56 x 1;", "a s64 at 55 x 2 by 1;", "a s64 at 0 x 57 by 1;");
        fault(3, "a s64 at 56 x 2 by ^1;", "a s64 at 0 x 58 by ^1;");
        Feeder.viewsMarked(256, 0, "a u8 at 192 x 64;", "a s64 at 0 x 32;", "a s64 at 185 x 64 by 1;", "a u8 at 63 x 4 by 64;");
        Feeder.viewsMarked(256, 3, "a u8 at 193 x ^64;", "a s64 at 0 x ^33;", "a s64 at 186 x 64 by ^1;", "a u8 at 64 x 4 by ^64;");
    }

    private static void fieldNumbers() {
        sentence("3 .. FIELD: a bit beyond the KIND's");
        for (int k = 0; k < 7; k++) {
            int bits = 8 * BYTES[k];
            String head = "a " + KINDS[k] + " at 0 {b:";
            good(head + (bits - 1) + "-" + (bits - 1) + "};", head + "1-" + (bits - 1) + "};");
            fault(3, head + "1-^" + bits + "};", head + (bits - 1) + "-^" + bits + "};", head + "^" + bits + "-" + bits + "};", head + "1-^999};",
                head + "^999-1};");
        }
        sentence("3 .. FIELD: .. a high one below the low one");
        good("a u8 at 0 {b:0-0};", "a u8 at 0 {b:3-3};", "a u8 at 0 {b:7-7};", "a u8 at 0 {b:6-7};");
        fault(3, "a u8 at 0 {b:1-^0};", "a u8 at 0 {b:7-^6};", "a u8 at 0 {b:7-^0};", "a s64 at 0 {b:63-^62};", "a u8 at 0 {b:1-1,c:5-^4};");
        sentence("3 .. FIELD: .. more than 63 bits: the high one's");
        good("a s64 at 0 {b:0-62};", "a s64 at 0 {b:1-63};", "a s64 at 0 {b:0-61};");
        fault(3, "a s64 at 0 {b:0-^63};", "a s64 big at 0 {b:1-63,c:00-^063};");
    }

    private static void tooMany() {
        sentence("4 the 17th VIEW (at the NAME)");
        good(sixteen());
        fault(4, sixteen() + "^q u8 at 0;", sixteen() + "\n ^q", sixteen() + "^q s16 at 63;");
        sentence("4 .. the 9th FIELD of a VIEW (at the NAME)");
        good("a u8 at 0 {" + EIGHT + "};", "a u8 at 0 {" + EIGHT + "}; b u8 at 0 {" + EIGHT + "};");
        fault(4, "a u8 at 0 {" + EIGHT + ",^j:0-0};", "a u8 at 0 {" + EIGHT + ", ^j", "z u8 at 0 {" + EIGHT + "}; a u8 at 0 {" + EIGHT + ",^j:9-9};");
        sentence("4 .. a \"{\" of f32, f64 (at it)");
        fault(4, "a f32 at 0 ^{b:0-1};", "a f64 at 0^{b:0-1};", "a f32 big at 0 x 2 by 4 reads ^{b:0-1};", "a f64 at 0 x 2 ^{", "a f32 at 0 ^{};");
        good("a f32 at 0 x 2 by 4 reads;", "a f64 big at 0 ro;");
    }
}
