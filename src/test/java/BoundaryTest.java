import java.math.BigInteger;
import java.util.Arrays;

/**
 * For each sentence of the document that names a boundary case, a test of its own, in the document's order; each is
 * started with the words that it holds the class to.
 */
public final class BoundaryTest {
    private static final BigInteger ZERO = BigInteger.ZERO;
    private static final BigInteger ONE = BigInteger.ONE;
    private static final BigInteger TWO = BigInteger.TWO;
    private static final int MIN = Integer.MIN_VALUE;
    private static final int MAX = Integer.MAX_VALUE;
    private static final String[] WORK = {"addMod", "subMod", "mulMod", "montMod", "powMod"};

    private static String sentence = "";
    private static int wrong = 0;

    public static void main(String[] args) {
        terms();
        millersRule();
        modulusAndReady();
        registersAndRefusals();
        sumsAndProducts();
        powersAndInverses();
        witnessAndCompare();
        System.out.println(wrong == 0 ? "every boundary holds" : wrong + " answers are not as due");
        if (wrong != 0) {
            System.exit(1);
        }
    }

    private static void terms() {
        test("What it is: at most 512 calls, the last of them too", BoundaryTest::the512thCall);
        test("Terms: registers 0 to n - 1", BoundaryTest::registersFrom0ToNLess1);
        test("Terms: k limbs", BoundaryTest::limbsFrom0ToKLess1);
        test("Terms: of 32 bits (without a sign)", BoundaryTest::limbsHaveNoSign);
        test("Terms: limb 0 the lowest", BoundaryTest::limb0IsTheLowest);
        test("Terms: READY from an init() that told 0", BoundaryTest::readyFromInitThatTold0);
        test("Terms: to the next pokeMod() that told true", BoundaryTest::readyToThePokeModThatToldTrue);
        test("Terms: READY, for the modulus of the last init()", BoundaryTest::anotherModulus);
        test("Terms: d, a, b may be one register", BoundaryTest::operandsMayBeOneRegister);
    }

    private static void millersRule() {
        test("Miller's rule: x to t is neither 1", BoundaryTest::powerThatIs1ProvesNothing);
        test("Miller's rule: nor m - 1", BoundaryTest::powerThatIsMinus1ProvesNothing);
        test("Miller's rule: none of the s - 1 squares is m - 1", BoundaryTest::everySquareIsLookedAt);
        test("Miller's rule: a square that is 1 is not m - 1", BoundaryTest::squareThatIs1Proves);
        test("Miller's rule: s is 1, no squares", BoundaryTest::noSquaresIfSIs1);
        test("Miller's rule: s as high as it gets, t is 1", BoundaryTest::mostSquares);
    }

    private static void modulusAndReady() {
        test("Promise 1: k outside 1 to 8 is held to it", BoundaryTest::limbsAreHeldTo1To8);
        test("Promise 1: n outside 1 to 8 is held to it", BoundaryTest::registersAreHeldTo1To8);
        test("Promise 1: all are 0", BoundaryTest::newObjectIsAll0);
        test("Promise 1: it's not READY", BoundaryTest::newObjectIsNotReady);
        test("Promise 2: limb i of the modulus becomes w", BoundaryTest::pokeModChangesOneLimb);
        test("Promise 2: it's not READY then", BoundaryTest::pokeModOfTheSameLimbEndsReady);
        test("Promise 2: false, doing nothing: no such limb", BoundaryTest::pokeModOfNoLimb);
        test("Promise 3: 0: none such", BoundaryTest::peekModOfNoLimb);
        test("Promise 4: 0, it's READY", BoundaryTest::initTakesTheLeastAndTheMost);
        test("Promise 4: 1: the modulus is even", BoundaryTest::initRefusesEven);
        test("Promise 4: 1: or below 3", BoundaryTest::initRefusesBelow3);
        test("Promise 4: below 3 by all limbs, not by limb 0", BoundaryTest::initLooksAtAllLimbs);
        test("Promise 4: 1, it's as it was", BoundaryTest::initThatTold1ChangesNothing);
        test("Promise 4: 0, and no limb changes", BoundaryTest::initThatTold0ChangesNoLimb);
        test("Promise 5: whether it's READY", BoundaryTest::readyChangesNothing);
    }

    private static void registersAndRefusals() {
        test("Promise 6: limb i of register r becomes w", BoundaryTest::pokeChangesOneLimb);
        test("Promise 6: false, doing nothing: no such register", BoundaryTest::pokeOfNoRegister);
        test("Promise 6: false, doing nothing: no such limb", BoundaryTest::pokeOfNoLimb);
        test("Promise 7: 0: none such", BoundaryTest::peekOfNone);
        test("Promise 8: what it held modulo the modulus", BoundaryTest::reduceAroundTheModulus);
        test("Promise 8: false, doing nothing: not READY", BoundaryTest::reduceNotReady);
        test("Promise 8: false, doing nothing: no such register", BoundaryTest::reduceOfNoRegister);
        test("Promise 8: so do all that follow: not READY", BoundaryTest::workNotReady);
        test("Promise 8: so do all that follow: no such register", BoundaryTest::workOnNoRegister);
    }

    private static void sumsAndProducts() {
        test("Promise 9: a + b at the modulus", BoundaryTest::sumsAroundTheModulus);
        test("Promise 9: a + b beyond the highest limb", BoundaryTest::sumsThatCarryOut);
        test("Promise 10: a - b below 0", BoundaryTest::differencesBelow0);
        test("Promise 10: a - b of numbers alike modulo m", BoundaryTest::differencesThatAre0);
        test("Promise 11: a b of the greatest numbers", BoundaryTest::greatestProducts);
        test("Promise 11: a b that is 0 or 1", BoundaryTest::productsThatAre0Or1);
        test("Promise 12: a b by R, R as wide as the registers", BoundaryTest::rIsAsWideAsTheRegisters);
        test("Promise 12: a b by R of the greatest numbers", BoundaryTest::greatestProductsByR);
    }

    private static void powersAndInverses() {
        test("Promise 13: to what register e holds as it is", BoundaryTest::exponentIsNotReduced);
        test("Promise 13: every bit of e", BoundaryTest::exponentsOfOneBit);
        test("Promise 13: to 0: 1", BoundaryTest::powersTo0);
        test("Promise 13: powers of 0", BoundaryTest::powersOf0);
        test("Promise 14: 0: the inverse", BoundaryTest::inversesAtTheEnds);
        test("Promise 14: 0: the inverse of what is above the modulus", BoundaryTest::inversesOfUnreduced);
        test("Promise 14: 1, doing nothing: there is none", BoundaryTest::noInverse);
        test("Promise 14: 2, doing nothing: not READY", BoundaryTest::invModNotReady);
        test("Promise 14: 2, doing nothing: no such register", BoundaryTest::invModOfNoRegister);
    }

    private static void witnessAndCompare() {
        test("Promise 15: 1 or 0, and nothing changes", BoundaryTest::witnessChangesNothing);
        test("Promise 15: 0: 0 modulo it, too", BoundaryTest::witnessOf0);
        test("Promise 15: a's number above the modulus", BoundaryTest::witnessOfUnreduced);
        test("Promise 15: 2: not READY", BoundaryTest::witnessNotReady);
        test("Promise 15: 2: no such register", BoundaryTest::witnessOfNoRegister);
        test("Promise 16: -1, 0, 1", BoundaryTest::compareNeighbours);
        test("Promise 16: the highest limb that differs tells", BoundaryTest::compareLooksFromTheTop);
        test("Promise 16: as they are", BoundaryTest::compareDoesNotReduce);
        test("Promise 16: 2 is told of no register alone", BoundaryTest::compareNotReady);
        test("Promise 16: 2: no such register", BoundaryTest::compareOfNoRegister);
    }

    private static void test(String words, Runnable body) {
        sentence = words;
        try {
            body.run();
        } catch (RuntimeException thrown) {
            wrong++;
            System.out.println(sentence + " | a call threw " + thrown);
        }
    }

    private static void due(String what, Object got, Object want) {
        if (!got.equals(want)) {
            wrong++;
            System.out.println(sentence + " | " + what + " answered " + got + ", due is " + want);
        }
    }

    private static BigInteger num(long value) {
        return BigInteger.valueOf(value);
    }

    private static BigInteger twoTo(int exponent) {
        return ONE.shiftLeft(exponent);
    }

    /** The greatest number of k limbs. */
    private static BigInteger most(int k) {
        return twoTo(32 * k).subtract(ONE);
    }

    private static int limb(BigInteger value, int i) {
        return value.shiftRight(32 * i).intValue();
    }

    private static void setModulus(ModEngine x, int k, BigInteger value) {
        for (int i = 0; i < k; i++) {
            x.pokeMod(i, limb(value, i));
        }
    }

    private static void set(ModEngine x, int k, int r, BigInteger value) {
        for (int i = 0; i < k; i++) {
            x.poke(r, i, limb(value, i));
        }
    }

    private static BigInteger get(ModEngine x, int k, int r) {
        BigInteger value = ZERO;
        for (int i = k - 1; i >= 0; i--) {
            value = value.shiftLeft(32).add(num(x.peek(r, i) & 0xFFFFFFFFL));
        }
        return value;
    }

    /** A READY engine of k limbs and n registers, of which the first hold the values. */
    private static ModEngine engine(int k, int n, BigInteger modulus, BigInteger... values) {
        ModEngine x = new ModEngine(k, n);
        setModulus(x, k, modulus);
        due("init of " + modulus, x.init(), 0);
        for (int r = 0; r < values.length; r++) {
            set(x, k, r, values[r]);
        }
        return x;
    }

    /** READY, the modulus and all registers, so that two of these tell whether a call did nothing. */
    private static String state(ModEngine x, int k, int n) {
        StringBuilder text = new StringBuilder(x.ready() ? "READY" : "not READY");
        for (int i = 0; i < k; i++) {
            text.append(' ').append(x.peekMod(i));
        }
        for (int r = 0; r < n; r++) {
            text.append(" |");
            for (int i = 0; i < k; i++) {
                text.append(' ').append(x.peek(r, i));
            }
        }
        return text.toString();
    }

    /** What is not among 0 to size - 1: next to it, and numbers that would be if some of their bits were lost. */
    private static int[] outside(int size) {
        return new int[] {-1, size, size + 1, 8, 9, -size, 31, 32, 255, 256, 1 << 16, 1 << 30, MIN, MIN + 1, MAX};
    }

    private static boolean work(String name, ModEngine x, int d, int a, int b) {
        return switch (name) {
            case "addMod" -> x.addMod(d, a, b);
            case "subMod" -> x.subMod(d, a, b);
            case "mulMod" -> x.mulMod(d, a, b);
            case "montMod" -> x.montMod(d, a, b);
            default -> x.powMod(d, a, b);
        };
    }

    private static BigInteger worked(String name, int k, BigInteger m, BigInteger a, BigInteger b) {
        return switch (name) {
            case "addMod" -> a.add(b).mod(m);
            case "subMod" -> a.subtract(b).mod(m);
            case "mulMod" -> a.multiply(b).mod(m);
            case "montMod" -> a.multiply(b).multiply(twoTo(32 * k).modInverse(m)).mod(m);
            default -> a.modPow(b, m);
        };
    }

    private static void checkWork(String name, int k, BigInteger m, BigInteger a, BigInteger b) {
        ModEngine x = engine(k, 3, m, a, b, num(77));
        String what = name + " of " + a + " and " + b + " modulo " + m + ", k " + k;
        due(what, work(name, x, 2, 0, 1), true);
        due(what, get(x, k, 2), worked(name, k, m, a, b));
        due("a after " + what, get(x, k, 0), a);
        due("b after " + what, get(x, k, 1), b);
    }

    /** Moduli at the ends of what k limbs hold, and around the ends of their limbs. */
    private static BigInteger[] moduli(int k) {
        BigInteger middle = twoTo(32 * ((k + 1) / 2));
        return new BigInteger[] {
            num(3), num(5), middle.subtract(ONE), k > 1 ? middle.add(ONE) : num(0x80000001L),
            twoTo(32 * k - 1).subtract(ONE), twoTo(32 * k - 1).add(ONE), most(k).subtract(TWO), most(k),
        };
    }

    private static BigInteger[] valuesAround(int k, BigInteger m) {
        BigInteger top = most(k).divide(m).multiply(m);
        BigInteger[] all = {
            ZERO, ONE, m.subtract(TWO), m.subtract(ONE), m, m.add(ONE), m.shiftLeft(1).subtract(ONE), m.shiftLeft(1),
            top.subtract(ONE), top, top.add(ONE), twoTo(32 * k - 1), most(k).subtract(ONE), most(k),
        };
        return Arrays.stream(all).filter(value -> value.bitLength() <= 32 * k).toArray(BigInteger[]::new);
    }

    private static void the512thCall() {
        ModEngine x = new ModEngine(1, 2);
        x.pokeMod(0, 101);
        x.init();
        x.poke(0, 0, 1);
        x.poke(1, 0, 2);
        int held = 1;
        for (int call = 5; call < 512; call++) {
            due("mulMod, call " + call, x.mulMod(0, 0, 1), true);
            held = held * 2 % 101;
        }
        due("peek, call 512", x.peek(0, 0), held);
    }

    private static void registersFrom0ToNLess1() {
        for (int n = 1; n <= 8; n++) {
            ModEngine x = new ModEngine(1, n);
            for (int r = 0; r < n; r++) {
                due("poke of register " + r + " of " + n, x.poke(r, 0, 50 + r), true);
            }
            for (int r = 0; r < n; r++) {
                due("peek of register " + r + " of " + n, x.peek(r, 0), 50 + r);
            }
            due("poke of register " + n + " of " + n, x.poke(n, 0, 5), false);
            due("poke of register -1", x.poke(-1, 0, 5), false);
        }
    }

    private static void limbsFrom0ToKLess1() {
        for (int k = 1; k <= 8; k++) {
            ModEngine x = new ModEngine(k, 1);
            for (int i = 0; i < k; i++) {
                due("pokeMod of limb " + i + " of " + k, x.pokeMod(i, 70 + i), true);
                due("poke of limb " + i + " of " + k, x.poke(0, i, 50 + i), true);
            }
            for (int i = 0; i < k; i++) {
                due("peekMod of limb " + i + " of " + k, x.peekMod(i), 70 + i);
                due("peek of limb " + i + " of " + k, x.peek(0, i), 50 + i);
            }
            due("pokeMod of limb " + k + " of " + k, x.pokeMod(k, 5), false);
            due("poke of limb " + k + " of " + k, x.poke(0, k, 5), false);
        }
    }

    private static void limbsHaveNoSign() {
        for (int w : new int[] {MIN, MIN + 1, -2, -1, MAX, 0, 1}) {
            ModEngine x = new ModEngine(2, 1);
            x.pokeMod(0, w);
            x.pokeMod(1, w);
            x.poke(0, 0, w);
            x.poke(0, 1, w);
            due("peekMod after pokeMod of " + w, x.peekMod(0), w);
            due("peekMod after pokeMod of " + w, x.peekMod(1), w);
            due("peek after poke of " + w, x.peek(0, 0), w);
            due("peek after poke of " + w, x.peek(0, 1), w);
        }
        ModEngine x = engine(1, 2, num(7), num(0x80000000L), num(0xFFFFFFFFL));
        x.reduce(0);
        x.reduce(1);
        due("2 to 31 modulo 7", x.peek(0, 0), 2);
        due("2 to 32 less 1 modulo 7", x.peek(1, 0), 3);
        ModEngine y = engine(1, 1, num(0xFFFFFFFFL), num(5));
        y.reduce(0);
        due("5 modulo 2 to 32 less 1", y.peek(0, 0), 5);
    }

    private static void limb0IsTheLowest() {
        ModEngine x = new ModEngine(3, 2);
        x.pokeMod(0, 11);
        due("init of 11", x.init(), 0);
        x.poke(0, 2, 1);
        x.reduce(0);
        due("2 to 64 modulo 11", get(x, 3, 0), twoTo(64).mod(num(11)));
        x.pokeMod(2, 1);
        due("init of 2 to 64 plus 11", x.init(), 0);
        x.poke(1, 2, 1);
        x.poke(1, 0, 12);
        x.reduce(1);
        due("2 to 64 plus 12 modulo 2 to 64 plus 11", get(x, 3, 1), ONE);
    }

    private static void readyFromInitThatTold0() {
        ModEngine x = new ModEngine(2, 1);
        due("ready of a new one", x.ready(), false);
        x.pokeMod(0, 8);
        due("init of 8", x.init(), 1);
        due("ready after an init that told 1", x.ready(), false);
        x.pokeMod(0, 9);
        due("ready before init", x.ready(), false);
        due("init of 9", x.init(), 0);
        due("ready after an init that told 0", x.ready(), true);
        due("a second init of 9", x.init(), 0);
        due("ready after a second init", x.ready(), true);
        x.poke(0, 0, 10);
        due("reduce after a second init", x.reduce(0), true);
        due("10 modulo 9", get(x, 2, 0), ONE);
    }

    private static void readyToThePokeModThatToldTrue() {
        ModEngine x = engine(2, 2, num(9), num(20), num(2));
        for (int i : outside(2)) {
            due("pokeMod(" + i + ", 4)", x.pokeMod(i, 4), false);
            due("ready after pokeMod(" + i + ", 4)", x.ready(), true);
        }
        x.poke(0, 1, 1);
        x.poke(0, 9, 1);
        x.peekMod(0);
        x.reduce(0);
        x.reduce(5);
        x.invMod(0, 0);
        x.witness(1);
        for (String name : WORK) {
            work(name, x, 0, 1, 1);
        }
        due("ready after all other calls", x.ready(), true);
        due("pokeMod of the highest limb", x.pokeMod(1, 3), true);
        due("ready after it", x.ready(), false);
        x.pokeMod(1, 0);
        due("ready with the old modulus put back", x.ready(), false);
        due("reduce with the old modulus put back", x.reduce(0), false);
        due("init", x.init(), 0);
        due("ready again", x.ready(), true);
        x.poke(0, 0, 20);
        x.poke(0, 1, 0);
        x.reduce(0);
        due("20 modulo 9", get(x, 2, 0), TWO);
    }

    private static void anotherModulus() {
        for (int k = 1; k <= 8; k++) {
            ModEngine x = engine(k, 4, most(k), num(6), num(10), TWO);
            x.mulMod(3, 0, 1);
            for (BigInteger m : new BigInteger[] {num(15), num(7), twoTo(32 * k - 1).add(ONE), num(7)}) {
                setModulus(x, k, m);
                due("init of " + m, x.init(), 0);
                for (String name : WORK) {
                    due(name, work(name, x, 3, 0, 1), true);
                    due(name + " modulo " + m, get(x, k, 3), worked(name, k, m, num(6), num(10)));
                }
                due("invMod modulo " + m, x.invMod(3, 2), 0);
                due("invMod modulo " + m, get(x, k, 3), m.add(ONE).shiftRight(1));
                due("witness of " + m, x.witness(2), m.equals(num(7)) ? 0 : 1);
            }
        }
    }

    private static void operandsMayBeOneRegister() {
        int[][] places = {{0, 0, 1}, {1, 0, 1}, {0, 1, 0}, {0, 1, 1}, {0, 0, 0}, {1, 1, 1}};
        for (int k = 1; k <= 8; k++) {
            BigInteger m = most(k).divide(num(3)).setBit(0);
            BigInteger[] held = {most(k).subtract(num(5)), m.shiftRight(1).add(m)};
            for (String name : WORK) {
                for (int[] at : places) {
                    ModEngine x = engine(k, 2, m, held);
                    String what = name + Arrays.toString(at) + ", k " + k;
                    due(what, work(name, x, at[0], at[1], at[2]), true);
                    due(what, get(x, k, at[0]), worked(name, k, m, held[at[1]], held[at[2]]));
                    due("the other register after " + what, get(x, k, 1 - at[0]), held[1 - at[0]]);
                }
            }
            ModEngine x = engine(k, 1, m, TWO.add(m));
            due("invMod(0, 0), k " + k, x.invMod(0, 0), 0);
            due("the inverse of 2 in its own place, k " + k, get(x, k, 0), m.add(ONE).shiftRight(1));
            due("compare(0, 0)", x.compare(0, 0), 0);
        }
    }

    private static void checkWitness(BigInteger m, BigInteger x, int want) {
        for (int k = (m.bitLength() + 31) / 32; k <= 8; k++) {
            due("witness " + x + " of " + m + ", k " + k, engine(k, 1, m, x).witness(0), want);
        }
    }

    private static void powerThatIs1ProvesNothing() {
        checkWitness(num(9), ONE, 0);
        checkWitness(num(3), ONE, 0);
        // 2047 less 1 is 2 times 1023, 2 to 11 is 1 modulo 2047, and 11 divides 1023.
        checkWitness(num(2047), TWO, 0);
        // 13 less 1 is 4 times 3, and 3 to 3 is 1 modulo 13.
        checkWitness(num(13), num(3), 0);
        checkWitness(most(8), ONE, 0);
    }

    private static void powerThatIsMinus1ProvesNothing() {
        checkWitness(num(3), TWO, 0);
        checkWitness(num(9), num(8), 0);
        // 4 to 3 is 64, which is 12 modulo 13.
        checkWitness(num(13), num(4), 0);
        checkWitness(num(2047), num(2045), 0);
        checkWitness(most(8), most(8).subtract(ONE), 0);
    }

    /** Modulo 65537 a number of order 2 to j + 1 is m - 1 after j squares, and of these up to s - 1 = 15 count. */
    private static void everySquareIsLookedAt() {
        BigInteger m = num(65537);
        BigInteger x = num(3);
        for (int squares = 15; squares >= 0; squares--) {
            due("number of squares", x.modPow(twoTo(squares), m), m.subtract(ONE));
            checkWitness(m, x, 0);
            x = x.multiply(x).mod(m);
        }
        checkWitness(num(5), TWO, 0);
        checkWitness(num(5), num(3), 0);
        // 3215031751 proves itself composite to none of 2, 3, 5 and 7, and to 11 it does.
        for (int a : new int[] {2, 3, 5, 7}) {
            checkWitness(num(3215031751L), num(a), 0);
        }
        checkWitness(num(3215031751L), num(11), 1);
    }

    private static void squareThatIs1Proves() {
        // 4 is a square root of 1 modulo 15, 8 one modulo 21 and 63, and t is 7, 5 and 31.
        checkWitness(num(15), num(4), 1);
        checkWitness(num(21), num(8), 1);
        checkWitness(num(63), num(8), 1);
        // Modulo 65, 64 is 1 times t, so x to t is x: 14 and 51 are roots of 1, 8 and 57 are roots of -1.
        checkWitness(num(65), num(14), 1);
        checkWitness(num(65), num(51), 1);
        checkWitness(num(65), num(8), 0);
        checkWitness(num(65), num(57), 0);
        // 561 is a number of Carmichael: every power to 560 is 1, but 2 to 280 is 1 before any square is -1.
        checkWitness(num(561), TWO, 1);
    }

    private static void noSquaresIfSIs1() {
        for (int m : new int[] {3, 7, 11, 15, 19, 23, 27, 35, 39, 51, 55, 63, 2047}) {
            for (int x = 1; x < Math.min(m, 64); x++) {
                BigInteger power = num(x).modPow(num((m - 1) / 2), num(m));
                boolean proves = !power.equals(ONE) && !power.equals(num(m - 1));
                due("witness " + x + " of " + m, engine(1, 1, num(m), num(x)).witness(0), proves ? 1 : 0);
            }
        }
    }

    private static void mostSquares() {
        for (int k = 1; k <= 8; k++) {
            BigInteger m = twoTo(32 * k - 1).add(ONE);
            // 3 divides m, so it is composite and powers of 3 are never -1.
            ModEngine x = engine(k, 4, m, num(3), m.subtract(ONE), ONE, m.add(num(3)));
            due("witness 3 of " + m, x.witness(0), 1);
            due("witness -1 of " + m, x.witness(1), 0);
            due("witness 1 of " + m, x.witness(2), 0);
            due("witness 3 + m of " + m, x.witness(3), 1);
            // 2 to e is -1 for the odd multiples e of 32 k - 1 alone, and no power of two is one of these.
            ModEngine y = engine(k, 2, m, TWO, rootOf1(m));
            due("witness 2 of " + m, y.witness(0), 1);
            due("witness of a root of 1 of " + m, y.witness(1), 1);
        }
    }

    /** Its square is 1 modulo m, a multiple of 3: it is 1 modulo the power of 3 in m, and -1 modulo the rest. */
    private static BigInteger rootOf1(BigInteger m) {
        BigInteger threes = m.gcd(num(3).pow(9));
        BigInteger rest = m.divide(threes);
        BigInteger root = rest.multiply(rest.modInverse(threes)).shiftLeft(1).subtract(ONE).mod(m);
        due("the square of a root of 1", root.multiply(root).mod(m), ONE);
        return root;
    }

    private static void checkSize(int askedK, int askedN, int k, int n) {
        ModEngine x = new ModEngine(askedK, askedN);
        String name = "new ModEngine(" + askedK + ", " + askedN + ") ";
        due(name + "pokeMod " + (k - 1), x.pokeMod(k - 1, 7), true);
        due(name + "peekMod " + (k - 1), x.peekMod(k - 1), 7);
        due(name + "pokeMod " + k, x.pokeMod(k, 7), false);
        due(name + "poke " + (n - 1) + " " + (k - 1), x.poke(n - 1, k - 1, 9), true);
        due(name + "peek " + (n - 1) + " " + (k - 1), x.peek(n - 1, k - 1), 9);
        due(name + "poke " + (n - 1) + " " + k, x.poke(n - 1, k, 9), false);
        due(name + "poke " + n + " " + (k - 1), x.poke(n, k - 1, 9), false);
        x.pokeMod(k - 1, 0);
        x.pokeMod(0, 7);
        due(name + "init of 7", x.init(), 0);
        due(name + "addMod of the last register", x.addMod(n - 1, n - 1, n - 1), true);
        due(name + "addMod of the register above", x.addMod(n, n - 1, n - 1), false);
        due(name + "compare with the register above", x.compare(0, n), 2);
    }

    private static void limbsAreHeldTo1To8() {
        for (int below : new int[] {0, -1, -8, -9, -256, MIN, MIN + 1}) {
            checkSize(below, 3, 1, 3);
        }
        for (int k = 1; k <= 8; k++) {
            checkSize(k, 3, k, 3);
        }
        for (int above : new int[] {9, 10, 16, 256, 257, 65536, MAX - 1, MAX}) {
            checkSize(above, 3, 8, 3);
        }
    }

    private static void registersAreHeldTo1To8() {
        for (int below : new int[] {0, -1, -8, -9, -256, MIN, MIN + 1}) {
            checkSize(2, below, 2, 1);
        }
        for (int n = 1; n <= 8; n++) {
            checkSize(2, n, 2, n);
        }
        for (int above : new int[] {9, 10, 16, 256, 257, 65536, MAX - 1, MAX}) {
            checkSize(2, above, 2, 8);
        }
        checkSize(0, 0, 1, 1);
        checkSize(9, 9, 8, 8);
        checkSize(MIN, MAX, 1, 8);
        checkSize(MAX, MIN, 8, 1);
    }

    private static void newObjectIsAll0() {
        for (int k = 1; k <= 8; k++) {
            ModEngine x = new ModEngine(k, 9 - k);
            for (int i = 0; i < k; i++) {
                due("peekMod " + i, x.peekMod(i), 0);
                for (int r = 0; r < 9 - k; r++) {
                    due("peek " + r + " " + i, x.peek(r, i), 0);
                }
            }
            due("compare of the first and the last", x.compare(0, 8 - k), 0);
        }
    }

    private static void newObjectIsNotReady() {
        ModEngine x = new ModEngine(4, 2);
        due("ready", x.ready(), false);
        due("reduce", x.reduce(0), false);
        due("invMod", x.invMod(0, 1), 2);
        due("witness", x.witness(0), 2);
        due("init of 0", x.init(), 1);
    }

    private static void pokeModChangesOneLimb() {
        ModEngine x = new ModEngine(8, 1);
        for (int i = 0; i < 8; i++) {
            x.pokeMod(i, 10 + i);
        }
        for (int i = 0; i < 8; i++) {
            due("pokeMod", x.pokeMod(i, -1 - i), true);
            for (int j = 0; j < 8; j++) {
                due("limb " + j + " after pokeMod of " + i, x.peekMod(j), j <= i ? -1 - j : 10 + j);
            }
        }
        due("the register", get(x, 8, 0), ZERO);
    }

    private static void pokeModOfTheSameLimbEndsReady() {
        for (int k = 1; k <= 8; k++) {
            for (int i = 0; i < k; i++) {
                ModEngine x = engine(k, 1, most(k), num(5));
                due("pokeMod of what stood in limb " + i, x.pokeMod(i, -1), true);
                due("ready", x.ready(), false);
                due("reduce", x.reduce(0), false);
                due("addMod", x.addMod(0, 0, 0), false);
                due("register", get(x, k, 0), num(5));
                due("init", x.init(), 0);
                due("ready after init", x.ready(), true);
            }
        }
    }

    private static void pokeModOfNoLimb() {
        for (int k = 1; k <= 8; k++) {
            ModEngine x = engine(k, 2, most(k), num(5), num(6));
            ModEngine y = new ModEngine(k, 2);
            setModulus(y, k, num(21));
            String before = state(x, k, 2);
            String beforeY = state(y, k, 2);
            for (int i : outside(k)) {
                if (i >= 0 && i < k) {
                    continue;
                }
                due("pokeMod(" + i + ", 4), k " + k, x.pokeMod(i, 4), false);
                due("pokeMod(" + i + ", 4), not READY, k " + k, y.pokeMod(i, 4), false);
            }
            due("state, k " + k, state(x, k, 2), before);
            due("state, k " + k, state(y, k, 2), beforeY);
        }
    }

    private static void peekModOfNoLimb() {
        for (int k = 1; k <= 8; k++) {
            ModEngine x = engine(k, 1, most(k), most(k));
            for (int i : outside(k)) {
                due("peekMod(" + i + "), k " + k, x.peekMod(i), i >= 0 && i < k ? -1 : 0);
            }
            due("ready", x.ready(), true);
        }
    }

    private static void initTakesTheLeastAndTheMost() {
        for (int k = 1; k <= 8; k++) {
            for (BigInteger m : moduli(k)) {
                ModEngine x = new ModEngine(k, 1);
                setModulus(x, k, m);
                due("ready before init of " + m, x.ready(), false);
                due("init of " + m, x.init(), 0);
                due("ready after init of " + m, x.ready(), true);
            }
        }
    }

    private static void checkInitRefuses(int k, BigInteger m) {
        ModEngine x = new ModEngine(k, 1);
        setModulus(x, k, m);
        due("init of " + m + ", k " + k, x.init(), 1);
        due("ready after init of " + m + ", k " + k, x.ready(), false);
    }

    private static void initRefusesEven() {
        for (int k = 1; k <= 8; k++) {
            for (BigInteger m : moduli(k)) {
                checkInitRefuses(k, m.subtract(ONE));
            }
            checkInitRefuses(k, num(4));
            checkInitRefuses(k, num(6));
            checkInitRefuses(k, twoTo(32 * k - 1));
            checkInitRefuses(k, most(k).subtract(most(1)));
        }
    }

    private static void initRefusesBelow3() {
        for (int k = 1; k <= 8; k++) {
            checkInitRefuses(k, ZERO);
            checkInitRefuses(k, ONE);
            checkInitRefuses(k, TWO);
            ModEngine x = new ModEngine(k, 1);
            x.pokeMod(0, 3);
            due("init of 3, k " + k, x.init(), 0);
        }
    }

    private static void initLooksAtAllLimbs() {
        for (int k = 2; k <= 8; k++) {
            for (int i = 1; i < k; i++) {
                for (int w : new int[] {1, -1, MIN}) {
                    ModEngine x = new ModEngine(k, 1);
                    x.pokeMod(0, 1);
                    due("init of 1", x.init(), 1);
                    x.pokeMod(i, w);
                    due("init of 1 with limb " + i + " " + w + ", k " + k, x.init(), 0);
                    x.pokeMod(i, 0);
                    due("init of 1 again", x.init(), 1);
                }
            }
        }
    }

    private static void initThatTold1ChangesNothing() {
        for (BigInteger m : new BigInteger[] {ZERO, ONE, TWO, num(10), twoTo(32), most(2).subtract(ONE)}) {
            ModEngine x = engine(2, 2, num(7), num(100), most(2));
            setModulus(x, 2, m);
            String before = state(x, 2, 2);
            due("init of " + m, x.init(), 1);
            due("state after init of " + m, state(x, 2, 2), before);
            due("ready after init of " + m, x.ready(), false);
            due("reduce after init of " + m, x.reduce(0), false);
            due("init of " + m + " again", x.init(), 1);
            due("state after it", state(x, 2, 2), before);
        }
    }

    private static void initThatTold0ChangesNoLimb() {
        for (int k = 1; k <= 8; k++) {
            for (BigInteger m : moduli(k)) {
                ModEngine x = engine(k, 2, m, most(k), m);
                String before = state(x, k, 2);
                due("init again", x.init(), 0);
                due("state after init again", state(x, k, 2), before);
                due("register 0 after init", get(x, k, 0), most(k));
                due("register 1 after init", get(x, k, 1), m);
                for (int i = 0; i < k; i++) {
                    due("limb " + i + " of " + m + " after init", x.peekMod(i), limb(m, i));
                }
            }
        }
    }

    private static void readyChangesNothing() {
        ModEngine x = new ModEngine(1, 1);
        x.pokeMod(0, 5);
        due("ready", x.ready(), false);
        due("ready again", x.ready(), false);
        x.init();
        due("ready after init", x.ready(), true);
        due("ready after init again", x.ready(), true);
        due("reduce", x.reduce(0), true);
    }

    private static void pokeChangesOneLimb() {
        ModEngine x = engine(4, 4, num(9));
        for (int r = 0; r < 4; r++) {
            for (int i = 0; i < 4; i++) {
                due("poke", x.poke(r, i, -1 - 4 * r - i), true);
                for (int j = 0; j < 16; j++) {
                    due("limb " + j % 4 + " of " + j / 4, x.peek(j / 4, j % 4), j <= 4 * r + i ? -1 - j : 0);
                }
            }
        }
        due("the modulus", x.peekMod(0), 9);
        due("the modulus", x.peekMod(1), 0);
        due("ready after poke", x.ready(), true);
    }

    private static void pokeOfNoRegister() {
        for (int n = 1; n <= 8; n++) {
            ModEngine x = new ModEngine(2, n);
            String before = state(x, 2, n);
            for (int r : outside(n)) {
                if (r < 0 || r >= n) {
                    due("poke(" + r + ", 0, 5), n " + n, x.poke(r, 0, 5), false);
                    due("poke(" + r + ", 1, 5), n " + n, x.poke(r, 1, 5), false);
                    due("poke(" + r + ", 2, 5), n " + n, x.poke(r, 2, 5), false);
                }
            }
            due("state, n " + n, state(x, 2, n), before);
        }
    }

    private static void pokeOfNoLimb() {
        for (int k = 1; k <= 8; k++) {
            ModEngine x = engine(k, 2, most(k), most(k), ONE);
            String before = state(x, k, 2);
            for (int i : outside(k)) {
                if (i < 0 || i >= k) {
                    due("poke(0, " + i + ", 5), k " + k, x.poke(0, i, 5), false);
                    due("poke(1, " + i + ", 5), k " + k, x.poke(1, i, 5), false);
                    due("poke(2, " + i + ", 5), k " + k, x.poke(2, i, 5), false);
                }
            }
            due("state, k " + k, state(x, k, 2), before);
        }
    }

    private static void peekOfNone() {
        for (int size = 1; size <= 8; size++) {
            ModEngine x = new ModEngine(size, size);
            for (int r = 0; r < size; r++) {
                set(x, size, r, most(size));
            }
            for (int no : outside(size)) {
                boolean fits = no >= 0 && no < size;
                due("peek(" + no + ", 0) of " + size, x.peek(no, 0), fits ? -1 : 0);
                due("peek(0, " + no + ") of " + size, x.peek(0, no), fits ? -1 : 0);
                due("peek(" + no + ", " + no + ") of " + size, x.peek(no, no), fits ? -1 : 0);
            }
        }
    }

    private static void reduceAroundTheModulus() {
        for (int k = 1; k <= 8; k++) {
            for (BigInteger m : moduli(k)) {
                for (BigInteger value : valuesAround(k, m)) {
                    ModEngine x = engine(k, 3, m, most(k), value, most(k));
                    due("reduce", x.reduce(1), true);
                    due(value + " modulo " + m + ", k " + k, get(x, k, 1), value.mod(m));
                    due("reduce again", x.reduce(1), true);
                    due(value + " modulo " + m + " again", get(x, k, 1), value.mod(m));
                    due("the register before", get(x, k, 0), most(k));
                    due("the register after", get(x, k, 2), most(k));
                }
            }
        }
    }

    /** The ways to be not READY, each with registers that would change if a call worked. */
    private static ModEngine[] notReady() {
        ModEngine fresh = new ModEngine(2, 3);
        ModEngine noInit = new ModEngine(2, 3);
        noInit.pokeMod(0, 13);
        ModEngine even = new ModEngine(2, 3);
        even.pokeMod(0, 14);
        even.init();
        ModEngine ended = engine(2, 3, num(13));
        ended.pokeMod(1, 0);
        ModEngine refused = engine(2, 3, num(13));
        refused.pokeMod(0, 12);
        refused.init();
        ModEngine putBack = engine(2, 3, num(13));
        putBack.pokeMod(0, 12);
        putBack.init();
        putBack.pokeMod(0, 13);
        ModEngine[] all = {fresh, noInit, even, ended, refused, putBack};
        for (ModEngine x : all) {
            for (int r = 0; r < 3; r++) {
                set(x, 2, r, num(1000 + 7 * r));
            }
        }
        return all;
    }

    private static void reduceNotReady() {
        for (ModEngine x : notReady()) {
            String before = state(x, 2, 3);
            for (int r = -1; r <= 3; r++) {
                due("reduce " + r, x.reduce(r), false);
            }
            due("state", state(x, 2, 3), before);
            due("ready", x.ready(), false);
        }
    }

    private static void reduceOfNoRegister() {
        for (int n = 1; n <= 8; n++) {
            ModEngine x = engine(1, n, num(13));
            for (int r = 0; r < n; r++) {
                x.poke(r, 0, 100 + r);
            }
            String before = state(x, 1, n);
            for (int r : outside(n)) {
                if (r < 0 || r >= n) {
                    due("reduce(" + r + "), n " + n, x.reduce(r), false);
                }
            }
            due("state, n " + n, state(x, 1, n), before);
        }
    }

    private static void workNotReady() {
        for (String name : WORK) {
            for (ModEngine x : notReady()) {
                String before = state(x, 2, 3);
                due(name + "(0, 1, 2)", work(name, x, 0, 1, 2), false);
                due(name + "(0, 0, 0)", work(name, x, 0, 0, 0), false);
                due(name + "(3, 1, 2)", work(name, x, 3, 1, 2), false);
                due("state after " + name, state(x, 2, 3), before);
            }
        }
    }

    private static void workOnNoRegister() {
        for (String name : WORK) {
            for (int n = 1; n <= 8; n++) {
                ModEngine x = engine(1, n, num(13));
                for (int r = 0; r < n; r++) {
                    x.poke(r, 0, 100 + r);
                }
                String before = state(x, 1, n);
                for (int no : outside(n)) {
                    if (no >= 0 && no < n) {
                        continue;
                    }
                    due(name + "(" + no + ", 0, 0), n " + n, work(name, x, no, 0, 0), false);
                    due(name + "(0, " + no + ", 0), n " + n, work(name, x, 0, no, 0), false);
                    due(name + "(0, 0, " + no + "), n " + n, work(name, x, 0, 0, no), false);
                    due(name + " of " + no + " alone, n " + n, work(name, x, no, no, no), false);
                }
                due("state after " + name + ", n " + n, state(x, 1, n), before);
            }
        }
    }

    private static void sumsAroundTheModulus() {
        for (int k = 1; k <= 8; k++) {
            for (BigInteger m : moduli(k)) {
                BigInteger half = m.shiftRight(1);
                checkWork("addMod", k, m, half, half);
                checkWork("addMod", k, m, half, half.add(ONE));
                checkWork("addMod", k, m, half.add(ONE), half.add(ONE));
                checkWork("addMod", k, m, m.subtract(ONE), ZERO);
                checkWork("addMod", k, m, m.subtract(ONE), ONE);
                checkWork("addMod", k, m, ONE, m.subtract(ONE));
                checkWork("addMod", k, m, m.subtract(ONE), TWO);
                checkWork("addMod", k, m, ZERO, ZERO);
                checkWork("addMod", k, m, m, ZERO);
                checkWork("addMod", k, m, ZERO, m);
            }
        }
    }

    private static void sumsThatCarryOut() {
        for (int k = 1; k <= 8; k++) {
            for (BigInteger m : moduli(k)) {
                checkWork("addMod", k, m, m.subtract(ONE), m.subtract(ONE));
                checkWork("addMod", k, m, m, m);
                checkWork("addMod", k, m, most(k), ONE);
                checkWork("addMod", k, m, ONE, most(k));
                checkWork("addMod", k, m, most(k), most(k));
                checkWork("addMod", k, m, twoTo(32 * k - 1), twoTo(32 * k - 1));
            }
        }
    }

    private static void differencesBelow0() {
        for (int k = 1; k <= 8; k++) {
            for (BigInteger m : moduli(k)) {
                checkWork("subMod", k, m, ZERO, ONE);
                checkWork("subMod", k, m, ZERO, m.subtract(ONE));
                checkWork("subMod", k, m, ONE, TWO);
                checkWork("subMod", k, m, m.subtract(TWO), m.subtract(ONE));
                checkWork("subMod", k, m, m, m.subtract(ONE));
                checkWork("subMod", k, m, ZERO, most(k));
                checkWork("subMod", k, m, m.subtract(ONE), most(k));
                checkWork("subMod", k, m, most(k), ONE);
                checkWork("subMod", k, m, most(k), m.subtract(ONE));
            }
        }
    }

    private static void differencesThatAre0() {
        for (int k = 1; k <= 8; k++) {
            for (BigInteger m : moduli(k)) {
                BigInteger top = most(k).divide(m).multiply(m);
                checkWork("subMod", k, m, ZERO, ZERO);
                checkWork("subMod", k, m, ZERO, m);
                checkWork("subMod", k, m, m, ZERO);
                checkWork("subMod", k, m, m, m);
                checkWork("subMod", k, m, top, m);
                checkWork("subMod", k, m, ZERO, top);
                checkWork("subMod", k, m, m.subtract(ONE), top.subtract(ONE));
                checkWork("subMod", k, m, most(k), most(k));
            }
        }
    }

    private static void checkAllPairs(String name, int k, BigInteger m) {
        for (BigInteger a : valuesAround(k, m)) {
            for (BigInteger b : valuesAround(k, m)) {
                checkWork(name, k, m, a, b);
            }
        }
    }

    private static void greatestProducts() {
        for (int k = 1; k <= 8; k++) {
            for (BigInteger m : moduli(k)) {
                checkAllPairs("mulMod", k, m);
            }
        }
    }

    private static void productsThatAre0Or1() {
        for (int k = 1; k <= 8; k++) {
            BigInteger m = most(k);
            // 3 divides the greatest number of k limbs, and 2 times 2 to 32 k - 1 is 1 modulo it.
            ModEngine x = engine(k, 4, m, num(3), m.divide(num(3)), TWO, twoTo(32 * k - 1));
            x.mulMod(0, 0, 1);
            due("divisors of m", get(x, k, 0), ZERO);
            x.mulMod(1, 0, 2);
            due("0 by 2", get(x, k, 1), ZERO);
            x.mulMod(3, 2, 3);
            due("2 by half of R", get(x, k, 3), ONE);
            checkWork("mulMod", k, m, m.subtract(ONE), m.subtract(ONE));
        }
    }

    private static void rIsAsWideAsTheRegisters() {
        for (int k = 1; k <= 8; k++) {
            for (BigInteger m : moduli(k)) {
                // R is 2 to 32 k, by the registers' limbs, even if the modulus fills fewer of them.
                BigInteger r = twoTo(32 * k).mod(m);
                ModEngine x = engine(k, 4, m, r, num(6), ONE, r.multiply(num(6)).mod(m));
                x.montMod(0, 0, 1);
                due("R by 6 by R modulo " + m + ", k " + k, get(x, k, 0), num(6).mod(m));
                x.montMod(3, 3, 2);
                due("6 R by 1 by R modulo " + m + ", k " + k, get(x, k, 3), num(6).mod(m));
                checkWork("montMod", k, m, ONE, ONE);
                checkWork("montMod", k, m, ZERO, most(k));
                checkWork("montMod", k, m, most(k), ZERO);
            }
        }
    }

    private static void greatestProductsByR() {
        for (int k = 1; k <= 8; k++) {
            for (BigInteger m : moduli(k)) {
                checkAllPairs("montMod", k, m);
            }
        }
    }

    private static void exponentIsNotReduced() {
        for (int k = 1; k <= 8; k++) {
            for (BigInteger m : moduli(k)) {
                for (BigInteger e : valuesAround(k, m)) {
                    checkWork("powMod", k, m, TWO, e);
                    checkWork("powMod", k, m, most(k), e);
                }
            }
        }
        ModEngine x = engine(1, 3, num(7), num(3), num(7), num(8));
        x.powMod(1, 0, 1);
        due("3 to 7 modulo 7", x.peek(1, 0), 3);
        x.powMod(2, 0, 2);
        due("3 to 8 modulo 7", x.peek(2, 0), 2);
    }

    private static void exponentsOfOneBit() {
        for (int k = 1; k <= 8; k++) {
            BigInteger m = most(k).divide(num(5)).setBit(0);
            for (int i = 0; i < k; i++) {
                checkWork("powMod", k, m, num(3), twoTo(32 * i));
                checkWork("powMod", k, m, num(3), twoTo(32 * i + 1));
                checkWork("powMod", k, m, num(3), twoTo(32 * i + 31));
                checkWork("powMod", k, m, num(3), twoTo(32 * i + 31).add(ONE));
            }
        }
    }

    private static void powersTo0() {
        for (int k = 1; k <= 8; k++) {
            for (BigInteger m : moduli(k)) {
                for (BigInteger a : valuesAround(k, m)) {
                    ModEngine x = engine(k, 3, m, a, ZERO, most(k));
                    due("powMod", x.powMod(2, 0, 1), true);
                    due(a + " to 0 modulo " + m, get(x, k, 2), ONE);
                    due("powMod into e", x.powMod(1, 0, 1), true);
                    due(a + " to 0 modulo " + m + " in e's place", get(x, k, 1), ONE);
                }
            }
        }
        ModEngine x = engine(2, 1, num(9));
        due("powMod(0, 0, 0)", x.powMod(0, 0, 0), true);
        due("0 to 0", get(x, 2, 0), ONE);
    }

    private static void powersOf0() {
        for (int k = 1; k <= 8; k++) {
            for (BigInteger m : moduli(k)) {
                for (BigInteger e : new BigInteger[] {ONE, TWO, m, most(k), twoTo(32 * k - 1)}) {
                    ModEngine x = engine(k, 3, m, ZERO, m, e);
                    due("powMod", x.powMod(0, 0, 2), true);
                    due("0 to " + e + " modulo " + m, get(x, k, 0), ZERO);
                    due("powMod", x.powMod(1, 1, 2), true);
                    due("m to " + e + " modulo " + m, get(x, k, 1), ZERO);
                }
                checkWork("powMod", k, m, ONE, most(k));
                checkWork("powMod", k, m, m.subtract(ONE), most(k));
                checkWork("powMod", k, m, m.subtract(ONE), most(k).subtract(ONE));
                checkWork("powMod", k, m, m.subtract(ONE), ONE);
            }
        }
    }

    private static void checkInverse(int k, BigInteger m, BigInteger a) {
        ModEngine x = engine(k, 3, m, a, num(77), most(k));
        String what = "invMod of " + a + " modulo " + m + ", k " + k;
        due(what, x.invMod(1, 0), 0);
        due(what, get(x, k, 1), a.modInverse(m));
        due("a after " + what, get(x, k, 0), a);
        due("another register after " + what, get(x, k, 2), most(k));
        due("ready after " + what, x.ready(), true);
    }

    private static void inversesAtTheEnds() {
        for (int k = 1; k <= 8; k++) {
            for (BigInteger m : moduli(k)) {
                checkInverse(k, m, ONE);
                checkInverse(k, m, TWO);
                checkInverse(k, m, m.subtract(TWO));
                checkInverse(k, m, m.subtract(ONE));
                checkInverse(k, m, m.shiftRight(1));
                checkInverse(k, m, m.shiftRight(1).add(ONE));
                for (int bit = 31; bit < m.bitLength(); bit += 32) {
                    checkInverse(k, m, twoTo(bit));
                }
            }
        }
    }

    private static void inversesOfUnreduced() {
        for (int k = 1; k <= 8; k++) {
            for (BigInteger m : moduli(k)) {
                for (BigInteger a : valuesAround(k, m)) {
                    if (a.gcd(m).equals(ONE)) {
                        checkInverse(k, m, a);
                    }
                }
            }
        }
    }

    private static void checkNoInverse(int k, BigInteger m, BigInteger a) {
        ModEngine x = engine(k, 2, m, a, num(77));
        String before = state(x, k, 2);
        String what = "invMod of " + a + " modulo " + m + ", k " + k;
        due(what, x.invMod(1, 0), 1);
        due(what + " in its own place", x.invMod(0, 0), 1);
        due("state after " + what, state(x, k, 2), before);
    }

    private static void noInverse() {
        for (int k = 1; k <= 8; k++) {
            for (BigInteger m : moduli(k)) {
                for (BigInteger a : valuesAround(k, m)) {
                    if (!a.gcd(m).equals(ONE)) {
                        checkNoInverse(k, m, a);
                    }
                }
            }
            BigInteger m = most(k);
            checkNoInverse(k, m, num(3));
            checkNoInverse(k, m, m.divide(num(3)));
            checkNoInverse(k, m, m.subtract(num(3)));
            checkNoInverse(k, m, num(3).multiply(twoTo(32 * k - 2)));
            checkNoInverse(k, num(9), num(6));
            checkNoInverse(k, num(9), num(12));
        }
    }

    private static void invModNotReady() {
        for (ModEngine x : notReady()) {
            String before = state(x, 2, 3);
            due("invMod(0, 1)", x.invMod(0, 1), 2);
            due("invMod(1, 1)", x.invMod(1, 1), 2);
            due("invMod(3, 1)", x.invMod(3, 1), 2);
            due("state", state(x, 2, 3), before);
        }
    }

    private static void invModOfNoRegister() {
        for (int n = 1; n <= 8; n++) {
            ModEngine x = engine(1, n, num(13));
            for (int r = 0; r < n; r++) {
                // Register 0 has no inverse, so that 2 is seen to come before 1.
                x.poke(r, 0, 13 + r);
            }
            String before = state(x, 1, n);
            for (int no : outside(n)) {
                if (no < 0 || no >= n) {
                    due("invMod(" + no + ", 0), n " + n, x.invMod(no, 0), 2);
                    due("invMod(0, " + no + "), n " + n, x.invMod(0, no), 2);
                    due("invMod(" + no + ", " + (n - 1) + "), n " + n, x.invMod(no, n - 1), 2);
                    due("invMod(" + no + ", " + no + "), n " + n, x.invMod(no, no), 2);
                }
            }
            due("state, n " + n, state(x, 1, n), before);
        }
    }

    private static void witnessChangesNothing() {
        for (int k = 1; k <= 8; k++) {
            BigInteger m = most(k);
            ModEngine x = engine(k, 3, m, TWO, m.subtract(ONE), m);
            String before = state(x, k, 3);
            due("witness 2 of " + m, x.witness(0), 1);
            due("witness -1 of " + m, x.witness(1), 0);
            due("witness m of " + m, x.witness(2), 0);
            due("state", state(x, k, 3), before);
        }
    }

    private static void witnessOf0() {
        for (int k = 1; k <= 8; k++) {
            for (BigInteger m : moduli(k)) {
                BigInteger top = most(k).divide(m).multiply(m);
                ModEngine x = engine(k, 3, m, ZERO, m, top);
                due("witness 0 of " + m, x.witness(0), 0);
                due("witness m of " + m, x.witness(1), 0);
                due("witness " + top + " of " + m, x.witness(2), 0);
            }
        }
        checkWitness(num(15), num(30), 0);
        checkWitness(num(9), num(18), 0);
    }

    private static void witnessOfUnreduced() {
        for (int k = 1; k <= 8; k++) {
            // Modulo 9: 1 and 8 prove nothing, all others but 0 prove it.
            BigInteger top = most(k).divide(num(9)).multiply(num(9)).subtract(num(9));
            for (int a = 0; a < 9; a++) {
                ModEngine x = engine(k, 1, num(9), top.add(num(a)));
                due("witness " + a + " of 9, " + top + " above", x.witness(0), a == 0 || a == 1 || a == 8 ? 0 : 1);
                due("register", get(x, k, 0), top.add(num(a)));
            }
        }
    }

    private static void witnessNotReady() {
        for (ModEngine x : notReady()) {
            String before = state(x, 2, 3);
            for (int a = -1; a <= 3; a++) {
                due("witness " + a, x.witness(a), 2);
            }
            set(x, 2, 0, ZERO);
            due("witness of 0", x.witness(0), 2);
            set(x, 2, 0, num(1000));
            due("state", state(x, 2, 3), before);
        }
    }

    private static void witnessOfNoRegister() {
        for (int n = 1; n <= 8; n++) {
            ModEngine x = engine(1, n, num(15));
            String before = state(x, 1, n);
            for (int a : outside(n)) {
                due("witness(" + a + "), n " + n, x.witness(a), a >= 0 && a < n ? 0 : 2);
            }
            due("state, n " + n, state(x, 1, n), before);
        }
    }

    private static void checkCompare(int k, BigInteger less, BigInteger more) {
        ModEngine x = new ModEngine(k, 3);
        set(x, k, 0, less);
        set(x, k, 1, more);
        set(x, k, 2, less);
        String before = state(x, k, 3);
        due("compare " + less + " and " + more, x.compare(0, 1), -1);
        due("compare " + more + " and " + less, x.compare(1, 0), 1);
        due("compare " + less + " and the same", x.compare(0, 2), 0);
        due("compare " + more + " and itself", x.compare(1, 1), 0);
        due("state", state(x, k, 3), before);
    }

    private static void compareNeighbours() {
        for (int k = 1; k <= 8; k++) {
            checkCompare(k, ZERO, ONE);
            checkCompare(k, ZERO, most(k));
            checkCompare(k, most(k).subtract(ONE), most(k));
            for (int i = 0; i < k; i++) {
                checkCompare(k, twoTo(32 * i + 31).subtract(ONE), twoTo(32 * i + 31));
                checkCompare(k, twoTo(32 * i), twoTo(32 * i).add(ONE));
                checkCompare(k, most(i), twoTo(32 * i));
            }
        }
    }

    private static void compareLooksFromTheTop() {
        for (int k = 2; k <= 8; k++) {
            for (int i = 1; i < k; i++) {
                // The lower limbs say the contrary of limb i, and the limbs above are alike.
                BigInteger above = most(k).shiftRight(32 * (i + 1)).shiftLeft(32 * (i + 1));
                checkCompare(k, above.add(most(i)), above.add(twoTo(32 * i)));
                checkCompare(k, above.add(twoTo(32 * i + 30)).add(most(i)), above.add(twoTo(32 * i + 31)));
            }
        }
    }

    private static void compareDoesNotReduce() {
        ModEngine x = engine(1, 4, num(7), num(8), num(2), num(1), num(15));
        due("compare 8 and 2", x.compare(0, 1), 1);
        due("compare 2 and 8", x.compare(1, 0), -1);
        due("compare 8 and 1", x.compare(0, 2), 1);
        due("compare 15 and 8", x.compare(3, 0), 1);
        due("compare 1 and 15", x.compare(2, 3), -1);
        due("8 after compare", x.peek(0, 0), 8);
        due("15 after compare", x.peek(3, 0), 15);
    }

    private static void compareNotReady() {
        for (ModEngine x : notReady()) {
            due("compare(0, 1)", x.compare(0, 1), -1);
            due("compare(1, 0)", x.compare(1, 0), 1);
            due("compare(2, 2)", x.compare(2, 2), 0);
            due("compare(0, 3)", x.compare(0, 3), 2);
        }
    }

    private static void compareOfNoRegister() {
        for (int n = 1; n <= 8; n++) {
            ModEngine x = engine(1, n, num(15));
            ModEngine y = new ModEngine(1, n);
            for (int no : outside(n)) {
                int want = no >= 0 && no < n ? 0 : 2;
                due("compare(" + no + ", 0), n " + n, x.compare(no, 0), want);
                due("compare(0, " + no + "), n " + n, x.compare(0, no), want);
                due("compare(" + no + ", " + no + "), n " + n, x.compare(no, no), want);
                due("compare(0, " + no + "), not READY, n " + n, y.compare(0, no), want);
            }
        }
    }
}
