/** Puts texts on the tape of an object, and collects what tests find wrong. */
final class Feeder {
    private static int wrong = 0;
    private static String sentence = "";

    private Feeder() {
    }

    /** The document's words that the answers from here on hold to; told with each wrong answer. */
    static void sentence(String words) {
        sentence = "[" + words + "] ";
    }

    /** Feeds a text of up to 500 signs onto an empty tape: the fed numbers, five a call. */
    static int[][] calls(String text) {
        int[][] calls = new int[(text.length() + 19) / 20][5];
        for (int i = 0; i < calls.length * 20; i++) {
            int sign = i < text.length() ? text.charAt(i) : ' ';
            calls[i / 20][i % 20 / 4] |= sign << 8 * (3 - i % 4);
        }
        return calls;
    }

    static void put(ByteViews x, String text) {
        for (int[] c : calls(text)) {
            x.feed(c[0], c[1], c[2], c[3], c[4]);
        }
        x.end(text.length());
    }

    static int views(ByteViews x, String text) {
        put(x, text);
        return x.views();
    }

    static int script(ByteViews x, String text) {
        put(x, text);
        return x.script();
    }

    static int named(ByteViews x, String text) {
        put(x, text);
        return x.named();
    }

    static String shown(ByteViews x, int v) {
        StringBuilder s = new StringBuilder();
        int n = x.show(v);
        for (int i = 0; i < n; i++) {
            s.append((char) x.out(i));
        }
        return s.toString();
    }

    static ByteViews with(String views) {
        ByteViews x = new ByteViews();
        due("views of " + views, views(x, views) >= 0, true);
        return x;
    }

    static void due(String what, long got, long want) {
        if (got != want) {
            wrong++;
            System.out.println(sentence + what + " answered " + got + ", due is " + want);
        }
    }

    static void due(String what, boolean got, boolean want) {
        due(what, got ? 1 : 0, want ? 1 : 0);
    }

    static void due(String what, String got, String want) {
        if (!got.equals(want)) {
            wrong++;
            System.out.println(sentence + what + " answered " + got + ", due is " + want);
        }
    }

    static void bytes(String what, ByteViews x, int from, int... want) {
        for (int i = 0; i < want.length; i++) {
            due(what + ": at(" + (from + i) + ")", x.at(from + i), want[i]);
        }
    }

    static void pokes(ByteViews x, int from, int... values) {
        for (int i = 0; i < values.length; i++) {
            x.poke(from + i, values[i]);
        }
    }

    /** A text of views on so many bytes; place NONE and number 0 if it has no fault. */
    static void viewFault(int size, String text, int number, int place) {
        ByteViews x = new ByteViews();
        x.memory(size);
        views(x, "keep u8 at 0;");
        due("views of " + text, views(x, text), number == 0 ? x.look(1) : -1);
        due("fault(0) of " + text, x.fault(0), number);
        due("fault(1) of " + text, x.fault(1), place);
        due("tape behind " + text, x.look(4), 0);
        if (number != 0) {
            due("views behind " + text, x.look(1), 1);
            due("the view behind " + text, named(x, "keep"), 0);
        }
    }

    static void scriptFault(String views, String text, int number, int place) {
        ByteViews x = with(views);
        due("script " + text, script(x, text) == -1, number != 0);
        due("fault(0) of " + text, x.fault(0), number);
        due("fault(1) of " + text, x.fault(1), place);
        due("tape behind " + text, x.look(4), 0);
        if (number != 0) {
            due("nothing is done by " + text, x.look(6), 0);
            due("no history by " + text, x.look(3), 0);
        }
    }

    /** Texts with a "^" ahead of what is at fault. */
    static void viewsMarked(int size, int number, String... texts) {
        for (String text : texts) {
            viewFault(size, text.replace("^", ""), number, text.indexOf('^'));
        }
    }

    static void scriptsMarked(String views, int number, String... texts) {
        for (String text : texts) {
            scriptFault(views, text.replace("^", ""), number, text.indexOf('^'));
        }
    }

    static int wrong() {
        return wrong;
    }

    static void finish() {
        System.out.println(wrong == 0 ? "all answers are as due" : wrong + " answers are not as due");
        if (wrong != 0) {
            System.exit(1);
        }
    }
}
