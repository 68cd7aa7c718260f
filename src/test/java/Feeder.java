/** Puts texts on the tape of an object, and collects what tests find wrong. */
final class Feeder {
    private static int wrong = 0;

    private Feeder() {
    }

    /** Feeds a text of up to 500 signs onto an empty tape: the fed numbers, five a call. */
    static int[][] calls(String text) {
        int[][] calls = new int[(text.length() + 19) / 20][5];
        for (int i = 0; i < calls.length * 20; i++) {
            int sign = i < text.length() ? text.charAt(i) : ' ';
            calls[i / 20][i % 20 / 4] |= sign << 8 * (3 - i % 4);
        }
        return calls;
    }

    static void put(ByteViews x, String text) {
        for (int[] c : calls(text)) {
            x.feed(c[0], c[1], c[2], c[3], c[4]);
        }
        x.end(text.length());
    }

    static int views(ByteViews x, String text) {
        put(x, text);
        return x.views();
    }

    static int script(ByteViews x, String text) {
        put(x, text);
        return x.script();
    }

    static int named(ByteViews x, String text) {
        put(x, text);
        return x.named();
    }

    static String shown(ByteViews x, int v) {
        StringBuilder s = new StringBuilder();
        int n = x.show(v);
        for (int i = 0; i < n; i++) {
            s.append((char) x.out(i));
        }
        return s.toString();
    }

    static ByteViews with(String views) {
        ByteViews x = new ByteViews();
        due("views of " + views, views(x, views) >= 0, true);
        return x;
    }

    static void due(String what, long got, long want) {
        if (got != want) {
            wrong++;
            System.out.println(what + " answered " + got + ", due is " + want);
        }
    }

    static void due(String what, boolean got, boolean want) {
        due(what, got ? 1 : 0, want ? 1 : 0);
    }

    static void due(String what, String got, String want) {
        if (!got.equals(want)) {
            wrong++;
            System.out.println(what + " answered " + got + ", due is " + want);
        }
    }

    static int wrong() {
        return wrong;
    }

    static void finish() {
        System.out.println(wrong == 0 ? "all answers are as due" : wrong + " answers are not as due");
        if (wrong != 0) {
            System.exit(1);
        }
    }
}
