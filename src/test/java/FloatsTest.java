import java.util.Random;

/** Arithmetic and casts of floating numbers, compared bit by bit with Java's own. */
public final class FloatsTest {
    private static final String VIEWS = "a f64 at 0; b f64 at 8; r f64 at 16 x 5; t s64 at 56 x 5;"
        + " s f32 at 96; w s64 at 100; n f64 at 108; m f32 at 116;";
    private static final String SCRIPT = "r[0]=a+b; r[1]=a-b; r[2]=a*b; r[3]=a/b; r[4]=a%b; t[0]=a<b;"
        + "t[1]=a>b; t[2]=a~b; t[3]=a; if a t[4]=1; s=a; n=-a; m=s+0;";
    private static final double[] EDGES = {0.0, 1, 2, 3, 10, 0.5, 0.1, 1e-5, 1e15, 9007199254740992.0,
        9007199254740993.0, 9223372036854775807.0, 9223372036854774784.0, 1.8446744073709552e19,
        Double.MIN_VALUE, Double.MIN_NORMAL, Math.nextDown(Double.MIN_NORMAL), Double.MAX_VALUE,
        Double.POSITIVE_INFINITY, Double.NaN, Float.MAX_VALUE, Float.MIN_VALUE, Float.MIN_NORMAL,
        Float.MIN_VALUE / 2.0, Math.nextUp(Float.MIN_VALUE / 2.0), 3.4028235677973366e38,
        Math.nextDown(3.4028235677973366e38), 1 + 0x1p-24, 1 + 0x1p-24 + 0x1p-52, 1 + 0x3p-24, 1 - 0x1p-25,
        Math.nextUp(1.0), Math.nextDown(1.0), 0x1p-1000, 0x1p1000, 0x1.fffffffffffffp-538, 0x1p-537};
    private static final Random RANDOM = new Random(20);

    private static ByteViews object;
    private static int calls = 1000;

    private FloatsTest() {
    }

    public static void main(String[] args) {
        for (double a : EDGES) {
            for (double b : EDGES) {
                check(a, b);
                check(-a, b);
                check(a, -b);
                check(-a, -b);
            }
        }
        for (int i = 0; i < 25000 && Feeder.wrong() < 20; i++) {
            double a = number();
            check(a, RANDOM.nextInt(3) == 0 ? near(a) : number());
        }
        besideTies();
        wholes();
        numbers();
        Feeder.finish();
    }

    /** Products whose last bits are half a digit, or half a digit and the least that there can be beside it. */
    private static void besideTies() {
        for (int i = 0; i < 600 && Feeder.wrong() < 20; i++) {
            long a = RANDOM.nextLong() >>> 12 | 1L << 52 | 1;
            int gone = 52 + i % 2;
            long wanted = (1L << gone - 1) + RANDOM.nextInt(3) - 1;
            long b = wanted * inverse(a) & (1L << gone) - 1;
            check(a, b);
            check(a, (double) b * 0x1p-60);
        }
    }

    /** What an odd number gives 1 with, as longs wrap; each turn doubles the bits that are right. */
    private static long inverse(long a) {
        long x = a;
        for (int i = 0; i < 6; i++) {
            x *= 2 - a * x;
        }
        return x;
    }

    private static double number() {
        switch (RANDOM.nextInt(5)) {
            case 0:
                return Double.longBitsToDouble(RANDOM.nextLong());
            case 1:
                return Double.longBitsToDouble(RANDOM.nextLong() >>> 11 + RANDOM.nextInt(50));
            case 2:
                return (RANDOM.nextLong() >> RANDOM.nextInt(64)) * Math.pow(2, RANDOM.nextInt(80) - 70);
            case 3:
                float f = Float.intBitsToFloat(RANDOM.nextInt());
                return (f + (double) Math.nextUp(f)) / 2;
            default:
                return RANDOM.nextInt(2000) / 8.0 - 100;
        }
    }

    private static double near(double a) {
        long bits = Double.doubleToRawLongBits(a);
        int exponent = (RANDOM.nextInt(120) - 60) << 20;
        double b = Double.longBitsToDouble((bits + ((long) exponent << 32)) ^ RANDOM.nextInt(8));
        return RANDOM.nextBoolean() ? b : -b;
    }

    private static void fresh() {
        if (calls + 40 > 500) {
            object = new ByteViews();
            object.memory(120);
            Feeder.due("views", Feeder.views(object, VIEWS), 8);
            calls = 12;
        }
        calls += 40;
    }

    private static void check(double a, double b) {
        fresh();
        ByteViews x = object;
        x.fill(3, 0);
        x.writeFloat(0, 0, Double.doubleToRawLongBits(a));
        x.writeFloat(1, 0, Double.doubleToRawLongBits(b));
        Feeder.due("script", Feeder.script(x, SCRIPT), a != 0 ? 13 : 12);
        String pair = " of " + a + ", " + b;
        bits("+" + pair, x.peek(2, 0), a + b);
        bits("-" + pair, x.peek(2, 1), a - b);
        bits("*" + pair, x.peek(2, 2), a * b);
        bits("/" + pair, x.peek(2, 3), a / b);
        bits("%" + pair, x.peek(2, 4), a % b);
        Feeder.due("<" + pair, x.peek(3, 0), a < b ? 1 : 0);
        Feeder.due(">" + pair, x.peek(3, 1), a > b ? 1 : 0);
        Feeder.due("~" + pair, x.peek(3, 2), a == b ? 1 : 0);
        Feeder.due("long" + pair, x.peek(3, 3), (long) a);
        Feeder.due("if" + pair, x.peek(3, 4), a != 0 ? 1 : 0);
        Feeder.due("float" + pair, x.peek(4, 0), Float.floatToIntBits((float) a));
        bits("negative" + pair, x.peek(6, 0), -a);
        Feeder.due("float again" + pair, x.peek(7, 0), Float.floatToIntBits((float) ((double) (float) a + 0)));
    }

    private static void bits(String what, long got, double want) {
        Feeder.due(what, got, Double.doubleToLongBits(want));
    }

    private static void wholes() {
        for (int i = 0; i < 20000 && Feeder.wrong() < 20; i++) {
            long n = RANDOM.nextLong() >> RANDOM.nextInt(64);
            n = i < 64 ? 1L << i : i < 128 ? (1L << i - 64) - 1 : i < 192 ? -(1L << i - 128) + 1 : n;
            // Such ones lie close to half way between two floats.
            n = RANDOM.nextInt(4) == 0 ? (n | 1L << 23) << 39 >> RANDOM.nextInt(40) ^ RANDOM.nextInt(3) : n;
            fresh();
            ByteViews x = object;
            x.write(0, 0, n);
            x.write(4, 0, n);
            Feeder.due("(double) " + n, x.peek(0, 0), Double.doubleToLongBits((double) n));
            Feeder.due("(float) " + n, x.peek(4, 0), Float.floatToIntBits((float) n));
            x.write(0, 0, 7);
            Feeder.due("7 % " + n, x.rest(0, 0, n), Double.doubleToLongBits(7.0 % (double) n));
        }
    }

    private static void numbers() {
        for (int i = 0; i < 3000 && Feeder.wrong() < 20; i++) {
            String first = digits();
            String second = digits();
            fresh();
            Feeder.due("script", Feeder.script(object, "a = " + first + "." + second + ";"), 1);
            double want = (double) Long.parseLong(first)
                + (double) Long.parseLong(second) / (double) Math.round(Math.pow(10, second.length()));
            bits(first + "." + second, object.peek(0, 0), want);
        }
    }

    private static String digits() {
        StringBuilder s = new StringBuilder();
        for (int n = RANDOM.nextInt(9); n >= 0; n--) {
            s.append((char) ('0' + RANDOM.nextInt(10)));
        }
        return s.toString();
    }
}
