/**
 * Every small odd modulus with every pair of small numbers, worked out by counting and trying alone, as the document's
 * words say it: a second way beside the BigInteger of the other tests.
 */
public final class SmallTest {
    private static final int MOST_MODULUS = 45;
    private static final int[] WIDTHS = {1, 2, 8};
    private static int wrong = 0;

    public static void main(String[] args) {
        for (int k : WIDTHS) {
            for (int m = 3; m <= MOST_MODULUS; m += 2) {
                checkModulus(k, m);
            }
        }
        System.out.println(wrong == 0 ? "all small numbers are as due" : wrong + " answers are not as due");
        if (wrong != 0) {
            System.exit(1);
        }
    }

    private static void checkModulus(int k, int m) {
        int byR = inverse(powerOf2(32 * k, m), m);
        for (int a = 0; a <= m + 2; a++) {
            checkOne(k, m, a);
            for (int b = 0; b <= m + 2; b++) {
                checkTwo(k, m, a, b, byR);
            }
        }
    }

    private static void due(String what, int got, int want) {
        if (got != want) {
            wrong++;
            System.out.println(what + " answered " + got + ", due is " + want);
        }
    }

    private static ModEngine engine(int k, int m, int a, int b) {
        ModEngine x = new ModEngine(k, 3);
        x.pokeMod(0, m);
        x.poke(0, 0, a);
        x.poke(1, 0, b);
        due("init() of " + m, x.init(), 0);
        return x;
    }

    private static int told(ModEngine x, int k, boolean answer) {
        if (!answer) {
            return -1;
        }
        for (int i = 1; i < k; i++) {
            if (x.peek(2, i) != 0) {
                return -2;
            }
        }
        return x.peek(2, 0);
    }

    private static void checkOne(int k, int m, int a) {
        String where = " of " + a + " modulo " + m + " (k " + k + ")";
        int inverse = inverse(a % m, m);
        ModEngine x = engine(k, m, a, 0);
        due("invMod" + where, x.invMod(2, 0), inverse == 0 ? 1 : 0);
        due("the inverse" + where, told(x, k, true), inverse);
        due("witness" + where, x.witness(0), provesComposite(a, m) ? 1 : 0);
        due("reduce" + where, x.reduce(0) ? x.peek(0, 0) : -1, a % m);
    }

    private static void checkTwo(int k, int m, int a, int b, int byR) {
        String where = " of " + a + ", " + b + " modulo " + m + " (k " + k + ")";
        ModEngine x = engine(k, m, a, b);
        due("addMod" + where, told(x, k, x.addMod(2, 0, 1)), (a + b) % m);
        due("subMod" + where, told(x, k, x.subMod(2, 0, 1)), (a - b + 2 * m) % m);
        due("mulMod" + where, told(x, k, x.mulMod(2, 0, 1)), a * b % m);
        due("montMod" + where, told(x, k, x.montMod(2, 0, 1)), a * b % m * byR % m);
        due("powMod" + where, told(x, k, x.powMod(2, 0, 1)), power(a, b, m));
        due("compare" + where, x.compare(0, 1), a < b ? -1 : a == b ? 0 : 1);
    }

    private static int powerOf2(int exponent, int m) {
        return power(2, exponent, m);
    }

    private static int power(int a, int exponent, int m) {
        int result = 1;
        for (int i = 0; i < exponent; i++) {
            result = result * (a % m) % m;
        }
        return result;
    }

    /** 0: there is none. */
    private static int inverse(int a, int m) {
        for (int candidate = 1; candidate < m; candidate++) {
            if (a * candidate % m == 1) {
                return candidate;
            }
        }
        return 0;
    }

    private static boolean provesComposite(int a, int m) {
        int s = 0;
        int t = m - 1;
        while (t % 2 == 0) {
            t /= 2;
            s++;
        }
        int y = power(a, t, m);
        boolean proves = a % m != 0 && y != 1 && y != m - 1;
        for (int square = 1; square <= s - 1; square++) {
            y = y * y % m;
            proves = proves && y != m - 1;
        }
        return proves;
    }
}
