import java.math.BigInteger;

/** Long runs of mixed calls, right and wrong ones, held against a model in BigInteger; the same runs every time. */
public final class ModelTest {
    private static final int OBJECTS = 4000;
    private static final int MOST_CALLS = 512;

    private static int wrong = 0;
    private static long seed = 0x9E3779B97F4A7C15L;

    private final int k;
    private final int n;
    private final ModEngine engine;
    private final BigInteger[] held;
    private final BigInteger bound;
    private final int run;
    private BigInteger modulus = BigInteger.ZERO;
    private boolean ready = false;
    private int calls = 0;

    private ModelTest(int run, int k, int n) {
        this.run = run;
        this.k = Math.max(1, Math.min(8, k));
        this.n = Math.max(1, Math.min(8, n));
        engine = new ModEngine(k, n);
        bound = BigInteger.ONE.shiftLeft(32 * this.k);
        held = new BigInteger[this.n];
        java.util.Arrays.fill(held, BigInteger.ZERO);
    }

    public static void main(String[] args) {
        for (int run = 0; run < OBJECTS && wrong < 20; run++) {
            new ModelTest(run, below(11) - 1, below(11) - 1).play();
        }
        System.out.println(wrong == 0 ? "all answers are as due" : wrong + " answers are not as due");
        if (wrong != 0) {
            System.exit(1);
        }
    }

    private static long next() {
        seed ^= seed << 13;
        seed ^= seed >>> 7;
        seed ^= seed << 17;
        return seed * 0x2545F4914F6CDD1DL;
    }

    private static int below(int limit) {
        return (int) Long.remainderUnsigned(next() >>> 11, limit);
    }

    private void due(String what, long got, long want) {
        calls++;
        if (got != want) {
            wrong++;
            System.out.println("run " + run + " call " + calls + " (k " + k + ", n " + n + ", modulus "
                + modulus.toString(16) + "): " + what + " answered " + got + ", due is " + want);
        }
    }

    private static long bit(boolean value) {
        return value ? 1 : 0;
    }

    private void play() {
        int perCheck = n * k + k + 1;
        chooseModulus();
        while (calls + perCheck + 2 * k + 4 <= MOST_CALLS) {
            int before = calls;
            oneCall();
            // Looking at all the state uses up calls, so it is done now and then only, and at the end.
            if (below(4) == 0 && calls > before) {
                checkState();
            }
        }
        checkState();
    }

    private void checkState() {
        due("ready()", bit(engine.ready()), bit(ready));
        for (int i = 0; i < k; i++) {
            due("peekMod(" + i + ")", engine.peekMod(i), limb(modulus, i));
            for (int r = 0; r < n; r++) {
                due("peek(" + r + ", " + i + ")", engine.peek(r, i), limb(held[r], i));
            }
        }
    }

    private static int limb(BigInteger value, int i) {
        return value.shiftRight(32 * i).intValue();
    }

    private static BigInteger withLimb(BigInteger value, int i, int w) {
        BigInteger mask = BigInteger.valueOf(0xFFFFFFFFL).shiftLeft(32 * i);
        return value.andNot(mask).or(BigInteger.valueOf(w & 0xFFFFFFFFL).shiftLeft(32 * i));
    }

    private BigInteger anyNumber() {
        BigInteger one = BigInteger.ONE;
        int width = 1 + below(32 * k);
        BigInteger value = switch (below(9)) {
            case 0 -> BigInteger.valueOf(below(5));
            case 1 -> bound.subtract(BigInteger.valueOf(1 + below(4)));
            case 2 -> modulus.add(BigInteger.valueOf(below(5) - 2));
            case 3 -> one.shiftLeft(width).subtract(BigInteger.valueOf(below(3)));
            case 4 -> one.shiftLeft(width).add(one.shiftLeft(below(32 * k)));
            case 5 -> modulus.multiply(BigInteger.valueOf(below(1000)));
            default -> wide(width);
        };
        return value.mod(bound);
    }

    private static BigInteger wide(int width) {
        BigInteger value = BigInteger.ZERO;
        for (int i = 0; i < 4; i++) {
            value = value.shiftLeft(64).add(new BigInteger(Long.toUnsignedString(next())));
        }
        return value.mod(BigInteger.ONE.shiftLeft(width));
    }

    private void chooseModulus() {
        BigInteger value = anyNumber();
        if (below(3) == 0) {
            value = wide(1 + below(16 * k)).multiply(wide(1 + below(16 * k)));
        } else if (below(3) == 0) {
            value = value.nextProbablePrime();
        }
        value = value.mod(bound);
        if (below(12) != 0) {
            value = value.setBit(0);
        }
        for (int i = 0; i < k; i++) {
            pokeModCall(i, limb(value, i));
        }
        initCall();
    }

    private void pokeModCall(int i, int w) {
        boolean fits = i >= 0 && i < k;
        if (fits) {
            modulus = withLimb(modulus, i, w);
            ready = false;
        }
        due("pokeMod(" + i + ", " + w + ")", bit(engine.pokeMod(i, w)), bit(fits));
    }

    private void initCall() {
        boolean fits = modulus.testBit(0) && modulus.compareTo(BigInteger.TWO) > 0;
        ready = ready || fits;
        due("init()", engine.init(), fits ? 0 : 1);
    }

    private void pokeCall(int r, int i, int w) {
        boolean fits = has(r) && i >= 0 && i < k;
        if (fits) {
            held[r] = withLimb(held[r], i, w);
        }
        due("poke(" + r + ", " + i + ", " + w + ")", bit(engine.poke(r, i, w)), bit(fits));
    }

    private boolean has(int r) {
        return r >= 0 && r < n;
    }

    private int anyIndex(int size) {
        if (below(25) != 0) {
            return below(size);
        }
        int[] odd = {-1, size, size + 1, Integer.MIN_VALUE, Integer.MAX_VALUE, -size, 32 * size, 1 << 30};
        return odd[below(odd.length)];
    }

    private void oneCall() {
        int kind = below(24);
        int d = anyIndex(n);
        int a = anyIndex(n);
        int b = anyIndex(n);
        if (kind < 5) {
            int r = below(n);
            BigInteger value = anyNumber();
            for (int i = 0; i < k; i++) {
                pokeCall(r, i, limb(value, i));
            }
        } else if (kind == 5) {
            pokeCall(a, anyIndex(k), (int) next());
        } else if (kind == 6) {
            otherCall(a);
        } else if (kind == 7) {
            int want = has(a) && has(b) ? held[a].compareTo(held[b]) : 2;
            due("compare(" + a + ", " + b + ")", engine.compare(a, b), want);
        } else if (kind < 10) {
            reduceCall(a);
        } else if (kind < 13) {
            invModCall(d, a);
        } else if (kind < 16) {
            due("witness(" + a + ")", engine.witness(a), ready && has(a) ? millersRule(held[a]) : 2);
        } else {
            threeCall(kind, d, a, b);
        }
    }

    private void otherCall(int a) {
        switch (below(8)) {
            case 0 -> chooseModulus();
            case 1 -> pokeModCall(anyIndex(k), (int) next());
            case 2, 3 -> initCall();
            case 4 -> {
                int i = anyIndex(k);
                due("peekMod(" + i + ")", engine.peekMod(i), i >= 0 && i < k ? limb(modulus, i) : 0);
            }
            default -> {
                int i = anyIndex(k);
                due("peek(" + a + ", " + i + ")", engine.peek(a, i), has(a) && i >= 0 && i < k ? limb(held[a], i) : 0);
            }
        }
    }

    private void reduceCall(int r) {
        boolean fits = ready && has(r);
        if (fits) {
            held[r] = held[r].mod(modulus);
        }
        due("reduce(" + r + ")", bit(engine.reduce(r)), bit(fits));
    }

    private void invModCall(int d, int a) {
        int want = 2;
        if (ready && has(d) && has(a)) {
            want = held[a].gcd(modulus).equals(BigInteger.ONE) ? 0 : 1;
        }
        if (want == 0) {
            held[d] = held[a].modInverse(modulus);
        }
        due("invMod(" + d + ", " + a + ")", engine.invMod(d, a), want);
    }

    private void threeCall(int kind, int d, int a, int b) {
        boolean fits = ready && has(d) && has(a) && has(b);
        BigInteger p = fits ? held[a] : BigInteger.ZERO;
        BigInteger q = fits ? held[b] : BigInteger.ZERO;
        BigInteger want = BigInteger.ZERO;
        boolean told;
        if (kind == 16) {
            want = p.add(q);
            told = engine.addMod(d, a, b);
        } else if (kind == 17) {
            want = p.subtract(q);
            told = engine.subMod(d, a, b);
        } else if (kind < 20) {
            want = p.multiply(q);
            told = engine.mulMod(d, a, b);
        } else if (kind < 22) {
            want = fits ? p.multiply(q).multiply(bound.modInverse(modulus)) : want;
            told = engine.montMod(d, a, b);
        } else {
            want = fits ? p.modPow(q, modulus) : want;
            told = engine.powMod(d, a, b);
        }
        due("operation " + kind + " (" + d + ", " + a + ", " + b + ")", bit(told), bit(fits));
        if (fits) {
            held[d] = want.mod(modulus);
        }
    }

    private int millersRule(BigInteger value) {
        BigInteger lessOne = modulus.subtract(BigInteger.ONE);
        BigInteger x = value.mod(modulus);
        if (x.signum() == 0) {
            return 0;
        }
        int s = lessOne.getLowestSetBit();
        BigInteger y = x.modPow(lessOne.shiftRight(s), modulus);
        boolean proves = !y.equals(BigInteger.ONE) && !y.equals(lessOne);
        for (int i = 1; i < s; i++) {
            y = y.multiply(y).mod(modulus);
            proves = proves && !y.equals(lessOne);
        }
        return proves ? 1 : 0;
    }
}
