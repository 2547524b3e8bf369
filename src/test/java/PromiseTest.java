import java.math.BigInteger;

/** For each promise of the document: ordinary inputs, the edges that it names, and wrong inputs. */
public final class PromiseTest {
    private static final int[] NO_SUCH = {-1, Integer.MIN_VALUE, 8, Integer.MAX_VALUE};
    private static int wrong = 0;

    public static void main(String[] args) {
        newObjectIsHeldToItsBounds();
        newObjectIsAllZeroAndNotReady();
        pokeModSetsOneLimb();
        pokeModEndsReady();
        peekModReads();
        initTakesOddModuliFrom3();
        initRefusesEvenAndSmall();
        readyFollowsInitAndPokeMod();
        pokeSetsOneLimb();
        peekReads();
        reduceGivesTheResidue();
        notReadyDoesNothing();
        noSuchRegisterDoesNothing();
        addModAdds();
        subModSubtracts();
        mulModMultiplies();
        montModDividesByR();
        smallModuliTakeWideOperands();
        powModRaises();
        invModInverts();
        invModTellsThatThereIsNone();
        witnessFollowsMillersRule();
        witnessWithTheMostSquares();
        witnessOfZeroAndOfUnreduced();
        compareOrdersWithoutASign();
        operandsMayBeOneRegister();
        System.out.println(wrong == 0 ? "all answers are as due" : wrong + " answers are not as due");
        if (wrong != 0) {
            System.exit(1);
        }
    }

    private static void due(String what, Object got, Object want) {
        if (!got.equals(want)) {
            wrong++;
            System.out.println(what + " answered " + got + ", due is " + want);
        }
    }

    private static BigInteger hex(String digits) {
        return new BigInteger(digits, 16);
    }

    private static BigInteger num(long value) {
        return BigInteger.valueOf(value);
    }

    private static BigInteger twoTo(int exponent) {
        return BigInteger.ONE.shiftLeft(exponent);
    }

    private static void setModulus(ModEngine x, int k, BigInteger value) {
        for (int i = 0; i < k; i++) {
            due("pokeMod " + i, x.pokeMod(i, value.shiftRight(32 * i).intValue()), true);
        }
    }

    private static void set(ModEngine x, int k, int r, BigInteger value) {
        for (int i = 0; i < k; i++) {
            due("poke " + r + " " + i, x.poke(r, i, value.shiftRight(32 * i).intValue()), true);
        }
    }

    private static BigInteger get(ModEngine x, int k, int r) {
        BigInteger value = BigInteger.ZERO;
        for (int i = k - 1; i >= 0; i--) {
            value = value.shiftLeft(32).add(num(x.peek(r, i) & 0xFFFFFFFFL));
        }
        return value;
    }

    private static ModEngine readyEngine(int k, BigInteger modulus, BigInteger... registers) {
        ModEngine x = new ModEngine(k, 8);
        setModulus(x, k, modulus);
        due("init", x.init(), 0);
        for (int r = 0; r < registers.length; r++) {
            set(x, k, r, registers[r]);
        }
        return x;
    }

    private static void checkSize(int askedLimbs, int askedRegisters, int limbs, int registers) {
        ModEngine x = new ModEngine(askedLimbs, askedRegisters);
        String name = "new ModEngine(" + askedLimbs + ", " + askedRegisters + ") ";
        due(name + "last limb of the modulus", x.pokeMod(limbs - 1, 7), true);
        due(name + "limb above the modulus", x.pokeMod(limbs, 7), false);
        due(name + "last limb of the last register", x.poke(registers - 1, limbs - 1, 7), true);
        due(name + "limb above the register", x.poke(registers - 1, limbs, 7), false);
        due(name + "register above the last", x.poke(registers, limbs - 1, 7), false);
    }

    private static void newObjectIsHeldToItsBounds() {
        for (int size = 1; size <= 8; size++) {
            checkSize(size, 9 - size, size, 9 - size);
        }
        checkSize(0, 0, 1, 1);
        checkSize(-1, -1, 1, 1);
        checkSize(9, 9, 8, 8);
        checkSize(Integer.MIN_VALUE, Integer.MAX_VALUE, 1, 8);
        checkSize(Integer.MAX_VALUE, Integer.MIN_VALUE, 8, 1);
    }

    private static void newObjectIsAllZeroAndNotReady() {
        ModEngine x = new ModEngine(8, 8);
        due("new ready", x.ready(), false);
        for (int i = 0; i < 8; i++) {
            due("new peekMod " + i, x.peekMod(i), 0);
            for (int r = 0; r < 8; r++) {
                due("new peek " + r + " " + i, x.peek(r, i), 0);
            }
        }
        due("new init", x.init(), 1);
    }

    private static void pokeModSetsOneLimb() {
        ModEngine x = new ModEngine(3, 2);
        due("pokeMod", x.pokeMod(1, -5), true);
        due("pokeMod", x.pokeMod(2, 9), true);
        due("pokeMod", x.pokeMod(1, -6), true);
        due("limb 0", x.peekMod(0), 0);
        due("limb 1", x.peekMod(1), -6);
        due("limb 2", x.peekMod(2), 9);
        due("register limb", x.peek(0, 1), 0);
        for (int i : new int[] {-1, 3, 8, Integer.MIN_VALUE, Integer.MAX_VALUE}) {
            due("pokeMod " + i, x.pokeMod(i, 1), false);
        }
        due("limb 0", x.peekMod(0), 0);
        due("limb 2", x.peekMod(2), 9);
    }

    private static void pokeModEndsReady() {
        ModEngine x = readyEngine(2, num(7));
        due("pokeMod of no limb", x.pokeMod(2, 7), false);
        due("pokeMod of no limb", x.pokeMod(-1, 7), false);
        due("ready after a refused pokeMod", x.ready(), true);
        due("pokeMod of what stood there", x.pokeMod(0, 7), true);
        due("ready after pokeMod", x.ready(), false);
    }

    private static void peekModReads() {
        ModEngine x = new ModEngine(2, 1);
        x.pokeMod(0, 11);
        x.pokeMod(1, Integer.MIN_VALUE);
        due("peekMod 0", x.peekMod(0), 11);
        due("peekMod 1", x.peekMod(1), Integer.MIN_VALUE);
        for (int i : new int[] {-1, 2, 8, Integer.MIN_VALUE, Integer.MAX_VALUE}) {
            due("peekMod " + i, x.peekMod(i), 0);
        }
    }

    private static void initTakesOddModuliFrom3() {
        String[] fit = {"3", "5", "ffffffff", "100000001", "ffffffffffffffff", "8000000000000001", "8000000000000003"};
        for (String digits : fit) {
            ModEngine x = new ModEngine(2, 1);
            setModulus(x, 2, hex(digits));
            due("ready before init " + digits, x.ready(), false);
            due("init " + digits, x.init(), 0);
            due("ready " + digits, x.ready(), true);
            due("init again " + digits, x.init(), 0);
            due("ready again " + digits, x.ready(), true);
            due("limb 0 after init", x.peekMod(0), hex(digits).intValue());
        }
    }

    private static void initRefusesEvenAndSmall() {
        for (String digits : new String[] {"0", "1", "2", "4", "fffffffe", "100000000", "fffffffffffffffe"}) {
            ModEngine x = new ModEngine(2, 1);
            setModulus(x, 2, hex(digits));
            due("init " + digits, x.init(), 1);
            due("ready " + digits, x.ready(), false);
        }
    }

    private static void readyFollowsInitAndPokeMod() {
        ModEngine x = readyEngine(1, num(15));
        due("ready", x.ready(), true);
        x.poke(0, 0, 3);
        x.reduce(0);
        x.invMod(1, 0);
        x.witness(0);
        due("ready after work", x.ready(), true);
        x.pokeMod(0, 16);
        due("ready after pokeMod", x.ready(), false);
        due("init of 16", x.init(), 1);
        due("ready after init told 1", x.ready(), false);
        x.pokeMod(0, 17);
        due("ready before init", x.ready(), false);
        due("init of 17", x.init(), 0);
        due("ready after init", x.ready(), true);
        x.poke(0, 0, 20);
        x.reduce(0);
        due("20 modulo the new modulus", x.peek(0, 0), 3);
    }

    private static void pokeSetsOneLimb() {
        ModEngine x = new ModEngine(2, 3);
        due("poke", x.poke(1, 1, -9), true);
        due("poke", x.poke(2, 0, 4), true);
        for (int r = 0; r < 3; r++) {
            for (int i = 0; i < 2; i++) {
                due("peek " + r + " " + i, x.peek(r, i), r == 1 && i == 1 ? -9 : r == 2 && i == 0 ? 4 : 0);
            }
        }
        due("modulus", x.peekMod(1), 0);
        for (int no : new int[] {-1, 3, 8, Integer.MIN_VALUE, Integer.MAX_VALUE}) {
            due("poke register " + no, x.poke(no, 0, 1), false);
            due("poke limb " + no, x.poke(0, no, 1), false);
        }
        due("poke limb 2", x.poke(0, 2, 1), false);
        due("after refused pokes", get(x, 2, 0), BigInteger.ZERO);
        due("after refused pokes", get(x, 2, 1), num(-9 & 0xFFFFFFFFL).shiftLeft(32));
        due("after refused pokes", get(x, 2, 2), num(4));
        ModEngine y = readyEngine(1, num(7));
        due("poke while READY", y.poke(0, 0, 8), true);
        due("READY after poke", y.ready(), true);
        due("not reduced by poke", y.peek(0, 0), 8);
    }

    private static void peekReads() {
        ModEngine x = new ModEngine(2, 2);
        x.poke(0, 0, 1);
        x.poke(0, 1, 2);
        x.poke(1, 0, 3);
        x.poke(1, 1, -4);
        due("peek", x.peek(0, 0), 1);
        due("peek", x.peek(0, 1), 2);
        due("peek", x.peek(1, 0), 3);
        due("peek", x.peek(1, 1), -4);
        for (int no : new int[] {-1, 2, 8, Integer.MIN_VALUE, Integer.MAX_VALUE}) {
            due("peek register " + no, x.peek(no, 0), 0);
            due("peek limb " + no, x.peek(0, no), 0);
        }
    }

    private static void checkReduce(int k, BigInteger modulus, BigInteger value) {
        ModEngine x = readyEngine(k, modulus, value);
        due("reduce", x.reduce(0), true);
        due(value + " modulo " + modulus, get(x, k, 0), value.mod(modulus));
    }

    private static void reduceGivesTheResidue() {
        for (int k = 1; k <= 8; k++) {
            BigInteger most = twoTo(32 * k).subtract(BigInteger.ONE);
            for (BigInteger m : new BigInteger[] {num(3), num(0xFFFFFFFFL), twoTo(32 * k - 1).add(num(1)), most}) {
                checkReduce(k, m, BigInteger.ZERO);
                checkReduce(k, m, BigInteger.ONE);
                checkReduce(k, m, m.subtract(BigInteger.ONE));
                checkReduce(k, m, m);
                checkReduce(k, m, most);
                checkReduce(k, m, twoTo(32 * k - 1));
            }
        }
        ModEngine x = readyEngine(2, num(10007), num(20000), num(30000), num(40000));
        due("reduce", x.reduce(1), true);
        due("register 0 after reduce(1)", get(x, 2, 0), num(20000));
        due("register 1 after reduce(1)", get(x, 2, 1), num(30000 % 10007));
        due("register 2 after reduce(1)", get(x, 2, 2), num(40000));
    }

    private static void checkUntouched(String what, ModEngine x) {
        for (int r = 0; r < 8; r++) {
            due("register " + r + " after " + what, x.peek(r, 0), 100 + r);
        }
    }

    private static void checkAllRefused(String what, ModEngine x, int d, int a, int b) {
        due("addMod " + what, x.addMod(d, a, b), false);
        due("subMod " + what, x.subMod(d, a, b), false);
        due("mulMod " + what, x.mulMod(d, a, b), false);
        due("montMod " + what, x.montMod(d, a, b), false);
        due("powMod " + what, x.powMod(d, a, b), false);
    }

    private static void notReadyDoesNothing() {
        ModEngine x = new ModEngine(1, 8);
        for (int r = 0; r < 8; r++) {
            x.poke(r, 0, 100 + r);
        }
        x.pokeMod(0, 13);
        due("reduce, not READY", x.reduce(0), false);
        checkAllRefused("not READY", x, 0, 1, 2);
        due("invMod, not READY", x.invMod(0, 1), 2);
        due("witness, not READY", x.witness(1), 2);
        due("compare needs no READY", x.compare(0, 1), -1);
        checkUntouched("calls while not READY", x);
    }

    private static void noSuchRegisterDoesNothing() {
        for (int no : NO_SUCH) {
            ModEngine x = readyEngine(1, num(13));
            for (int r = 0; r < 8; r++) {
                x.poke(r, 0, 100 + r);
            }
            due("reduce of register " + no, x.reduce(no), false);
            checkAllRefused("into register " + no, x, no, 1, 2);
            checkAllRefused("of register " + no, x, 0, no, 2);
            checkAllRefused("by register " + no, x, 0, 1, no);
            due("invMod into register " + no, x.invMod(no, 1), 2);
            due("invMod of register " + no, x.invMod(0, no), 2);
            due("witness of register " + no, x.witness(no), 2);
            due("compare of register " + no, x.compare(no, 0), 2);
            due("compare with register " + no, x.compare(0, no), 2);
            checkUntouched("calls on register " + no, x);
            due("READY", x.ready(), true);
        }
    }

    private static final BigInteger M128 = hex("fedcba9876543210fedcba9876543211");
    private static final BigInteger[] VALUES = {
        BigInteger.ZERO, BigInteger.ONE, num(2), M128.subtract(BigInteger.ONE), M128, M128.add(BigInteger.ONE),
        hex("ffffffffffffffffffffffffffffffff"), hex("ffffffff00000000ffffffff00000000"),
        hex("123456789abcdef0f0e1d2c3b4a59687"),
    };

    private static void addModAdds() {
        for (BigInteger a : VALUES) {
            for (BigInteger b : VALUES) {
                ModEngine x = readyEngine(4, M128, BigInteger.TEN, a, b);
                due("addMod", x.addMod(0, 1, 2), true);
                due(a + " + " + b, get(x, 4, 0), a.add(b).mod(M128));
                due("a after addMod", get(x, 4, 1), a);
                due("b after addMod", get(x, 4, 2), b);
            }
        }
    }

    private static void subModSubtracts() {
        for (BigInteger a : VALUES) {
            for (BigInteger b : VALUES) {
                ModEngine x = readyEngine(4, M128, BigInteger.TEN, a, b);
                due("subMod", x.subMod(0, 1, 2), true);
                due(a + " - " + b, get(x, 4, 0), a.subtract(b).mod(M128));
                due("a after subMod", get(x, 4, 1), a);
                due("b after subMod", get(x, 4, 2), b);
            }
        }
    }

    private static void mulModMultiplies() {
        for (BigInteger a : VALUES) {
            for (BigInteger b : VALUES) {
                ModEngine x = readyEngine(4, M128, BigInteger.TEN, a, b);
                due("mulMod", x.mulMod(0, 1, 2), true);
                due(a + " * " + b, get(x, 4, 0), a.multiply(b).mod(M128));
                due("a after mulMod", get(x, 4, 1), a);
                due("b after mulMod", get(x, 4, 2), b);
            }
        }
    }

    private static void montModDividesByR() {
        for (int k = 4; k <= 8; k += 2) {
            BigInteger byR = twoTo(32 * k).modInverse(M128);
            for (BigInteger a : VALUES) {
                for (BigInteger b : VALUES) {
                    ModEngine x = readyEngine(k, M128, BigInteger.TEN, a, b);
                    due("montMod", x.montMod(0, 1, 2), true);
                    due(a + " * " + b + " by R", get(x, k, 0), a.multiply(b).multiply(byR).mod(M128));
                    due("a after montMod", get(x, k, 1), a);
                    due("b after montMod", get(x, k, 2), b);
                }
            }
        }
    }

    /** Operands far above a small modulus, so that Montgomery's rule is used beyond its usual bounds. */
    private static void smallModuliTakeWideOperands() {
        BigInteger most = twoTo(96).subtract(BigInteger.ONE);
        for (int m = 3; m < 60; m += 2) {
            BigInteger modulus = num(m);
            BigInteger byR = twoTo(96).modInverse(modulus);
            for (BigInteger b : new BigInteger[] {most, most.subtract(BigInteger.ONE), twoTo(95), num(m), num(m + 1)}) {
                ModEngine x = readyEngine(3, modulus, most, b);
                x.addMod(2, 0, 1);
                due("sum modulo " + m, get(x, 3, 2), most.add(b).mod(modulus));
                x.subMod(2, 0, 1);
                due("difference modulo " + m, get(x, 3, 2), most.subtract(b).mod(modulus));
                x.mulMod(2, 0, 1);
                due("product modulo " + m, get(x, 3, 2), most.multiply(b).mod(modulus));
                x.montMod(2, 0, 1);
                due("product by R modulo " + m, get(x, 3, 2), most.multiply(b).multiply(byR).mod(modulus));
                x.powMod(2, 0, 1);
                due("power modulo " + m, get(x, 3, 2), most.modPow(b, modulus));
            }
        }
    }

    private static void powModRaises() {
        for (BigInteger a : VALUES) {
            for (BigInteger e : VALUES) {
                ModEngine x = readyEngine(4, M128, BigInteger.TEN, a, e);
                due("powMod", x.powMod(0, 1, 2), true);
                due(a + " to " + e, get(x, 4, 0), a.modPow(e, M128));
                due("a after powMod", get(x, 4, 1), a);
                due("e after powMod", get(x, 4, 2), e);
            }
        }
        ModEngine x = readyEngine(1, num(7), num(3), num(7), num(0), num(14));
        x.powMod(4, 0, 1);
        due("3 to 7 modulo 7, the exponent as it is", get(x, 1, 4), num(3));
        x.powMod(4, 2, 2);
        due("0 to 0", get(x, 1, 4), num(1));
        x.powMod(4, 3, 2);
        due("14 to 0 modulo 7", get(x, 1, 4), num(1));
        x.powMod(4, 3, 1);
        due("14 to 7 modulo 7", get(x, 1, 4), num(0));
    }

    private static void invModInverts() {
        for (BigInteger a : VALUES) {
            if (a.gcd(M128).equals(BigInteger.ONE)) {
                ModEngine x = readyEngine(4, M128, BigInteger.TEN, a);
                due("invMod", x.invMod(0, 1), 0);
                due("inverse of " + a, get(x, 4, 0), a.modInverse(M128));
                due("a after invMod", get(x, 4, 1), a);
            }
        }
        for (int a = 1; a < 101; a++) {
            ModEngine x = readyEngine(1, num(101), num(a + 202));
            due("invMod", x.invMod(0, 0), 0);
            due("inverse of " + a, get(x, 1, 0), num(a).modInverse(num(101)));
        }
    }

    private static void invModTellsThatThereIsNone() {
        BigInteger most = hex("ffffffffffffffffffffffffffffffff");
        for (BigInteger a : new BigInteger[] {num(0), num(3), num(6), num(257), most, most.divide(num(3))}) {
            ModEngine x = readyEngine(4, most, BigInteger.TEN, a);
            due("invMod of " + a, x.invMod(0, 1), 1);
            due("d after invMod told 1", get(x, 4, 0), BigInteger.TEN);
            due("invMod into itself of " + a, x.invMod(1, 1), 1);
            due("a after invMod told 1", get(x, 4, 1), a);
        }
        ModEngine x = readyEngine(1, num(9), num(36), num(2));
        due("invMod of 36 modulo 9", x.invMod(1, 0), 1);
        due("it is not reduced", get(x, 1, 0), num(36));
        due("d", get(x, 1, 1), num(2));
    }

    private static int millersRule(BigInteger value, BigInteger m) {
        BigInteger lessOne = m.subtract(BigInteger.ONE);
        BigInteger x = value.mod(m);
        if (x.signum() == 0) {
            return 0;
        }
        int s = lessOne.getLowestSetBit();
        BigInteger y = x.modPow(lessOne.shiftRight(s), m);
        if (y.equals(BigInteger.ONE) || y.equals(lessOne)) {
            return 0;
        }
        for (int i = 1; i < s; i++) {
            y = y.multiply(y).mod(m);
            if (y.equals(lessOne)) {
                return 0;
            }
        }
        return 1;
    }

    private static void witnessFollowsMillersRule() {
        for (int m = 3; m < 130; m += 2) {
            for (int a = 0; a < m; a++) {
                ModEngine x = readyEngine(1, num(m), num(a));
                due("witness " + a + " of " + m, x.witness(0), millersRule(num(a), num(m)));
                due("a after witness", x.peek(0, 0), a);
            }
        }
        // Strong pseudoprimes, Carmichael's numbers, primes and composites with a long run of squares.
        String[] moduli = {
            "7ff", "cd7", "231", "bff7bd5", "10001", "c0000001", "100000001", "ffffffff00000001", "8000000000000001",
            "7fffffffffffffffffffffffffffffff", "ffffffff00000001000000000000000000000000ffffffffffffffffffffffff",
            "8000000000000000000000000000000000000000000000000000000000000001",
        };
        for (String digits : moduli) {
            for (int a = 1; a < 8; a++) {
                BigInteger m = hex(digits);
                ModEngine x = readyEngine(8, m, num(a), m.subtract(num(a)));
                due("witness " + a + " of " + m, x.witness(0), millersRule(num(a), m));
                due("witness -" + a + " of " + m, x.witness(1), millersRule(num(-a), m));
            }
        }
    }

    /** The modulus less 1 is the greatest power of two that k limbs hold: s is at its highest, and t is 1. */
    private static void witnessWithTheMostSquares() {
        for (int k = 1; k <= 8; k++) {
            BigInteger m = twoTo(32 * k - 1).add(BigInteger.ONE);
            // 3 divides m: a square root of 1 that is 1 modulo the power of 3 in m and -1 modulo the rest.
            BigInteger threes = m.gcd(num(3).pow(99));
            BigInteger rest = m.divide(threes);
            BigInteger root = rest.multiply(rest.modInverse(threes)).multiply(num(2)).subtract(BigInteger.ONE).mod(m);
            due("root of 1", root.multiply(root).mod(m), BigInteger.ONE);
            ModEngine x = readyEngine(k, m, root, num(2), num(3), m.subtract(BigInteger.ONE));
            due("witness of a root of 1", x.witness(0), 1);
            due("witness of 2", x.witness(1), millersRule(num(2), m));
            due("witness of 3", x.witness(2), 1);
            due("witness of m - 1", x.witness(3), 0);
        }
    }

    private static void witnessOfZeroAndOfUnreduced() {
        ModEngine x = readyEngine(1, num(15), num(0), num(15), num(30), num(16), num(17), num(29));
        due("witness of 0", x.witness(0), 0);
        due("witness of m", x.witness(1), 0);
        due("witness of 2 m", x.witness(2), 0);
        due("witness of m + 1", x.witness(3), 0);
        due("witness of m + 2", x.witness(4), 1);
        due("witness of 2 m - 1", x.witness(5), 0);
        due("not reduced by witness", x.peek(2, 0), 30);
    }

    private static void compareOrdersWithoutASign() {
        BigInteger[] rising = {
            num(0), num(1), num(0x7FFFFFFFL), num(0x80000000L), num(0xFFFFFFFFL), twoTo(32), twoTo(32).add(num(5)),
            hex("7fffffffffffffff"), hex("8000000000000000"), hex("ffffffffffffffff"),
        };
        ModEngine x = new ModEngine(2, 3);
        for (int i = 0; i < rising.length; i++) {
            for (int j = 0; j < rising.length; j++) {
                ModEngine y = new ModEngine(2, 3);
                set(y, 2, 0, rising[i]);
                set(y, 2, 2, rising[j]);
                due("compare " + rising[i] + " " + rising[j], y.compare(0, 2), Integer.compare(i, j));
                due("compare " + rising[i] + " with itself", y.compare(0, 0), 0);
            }
        }
        due("compare with register 3 of 3", x.compare(0, 3), 2);
        due("compare of register -1", x.compare(-1, 0), 2);
        ModEngine z = readyEngine(1, num(7), num(8), num(2));
        due("compare 8 and 2 as they are, not modulo 7", z.compare(0, 1), 1);
    }

    private static void operandsMayBeOneRegister() {
        BigInteger a = VALUES[8];
        BigInteger b = VALUES[7];
        int[][] aliases = {{0, 0, 1}, {1, 0, 1}, {0, 0, 0}, {1, 0, 0}};
        for (int[] at : aliases) {
            BigInteger[] held = {a, b};
            BigInteger p = held[at[1]];
            BigInteger q = held[at[2]];
            BigInteger[] want = {
                p.add(q), p.subtract(q), p.multiply(q),
                p.multiply(q).multiply(twoTo(128).modInverse(M128)), p.modPow(q, M128),
            };
            for (int op = 0; op < want.length; op++) {
                ModEngine x = readyEngine(4, M128, a, b);
                boolean told = switch (op) {
                    case 0 -> x.addMod(at[0], at[1], at[2]);
                    case 1 -> x.subMod(at[0], at[1], at[2]);
                    case 2 -> x.mulMod(at[0], at[1], at[2]);
                    case 3 -> x.montMod(at[0], at[1], at[2]);
                    default -> x.powMod(at[0], at[1], at[2]);
                };
                due("operation " + op, told, true);
                due("operation " + op + " on shared registers", get(x, 4, at[0]), want[op].mod(M128));
                due("the other register", get(x, 4, 1 - at[0]), held[1 - at[0]]);
            }
        }
    }
}
