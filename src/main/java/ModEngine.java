/**
 * An engine for whole numbers modulo an odd one, in registers of 32-bit limbs, limb 0 the lowest.
 * This class looks at the arguments; the arithmetic is in Ring, and that of plain rows in Limbs.
 */
public final class ModEngine {
    private static final int MOST_LIMBS = 8;
    private static final int MOST_REGISTERS = 8;
    private static final int LIMB_BITS = 32;
    private static final long LIMB_MASK = 0xFFFFFFFFL;

    private final int limbs;
    private final int count;
    private final int[][] registers;
    private final Ring ring;
    private boolean isReady;

    public ModEngine(int k, int n) {
        limbs = Math.max(1, Math.min(k, MOST_LIMBS));
        count = Math.max(1, Math.min(n, MOST_REGISTERS));
        registers = new int[count][limbs];
        ring = new Ring(limbs);
        isReady = false;
    }

    public boolean pokeMod(int i, int w) {
        if (!hasLimb(i)) {
            return false;
        }
        ring.modulus[i] = w;
        isReady = false;
        return true;
    }

    public int peekMod(int i) {
        return hasLimb(i) ? ring.modulus[i] : 0;
    }

    public int init() {
        if (!ring.hasFitModulus()) {
            return 1;
        }
        ring.prepare();
        isReady = true;
        return 0;
    }

    public boolean ready() {
        return isReady;
    }

    public boolean poke(int r, int i, int w) {
        if (!hasRegister(r) || !hasLimb(i)) {
            return false;
        }
        registers[r][i] = w;
        return true;
    }

    public int peek(int r, int i) {
        return hasRegister(r) && hasLimb(i) ? registers[r][i] : 0;
    }

    public boolean reduce(int r) {
        if (!isReady || !hasRegister(r)) {
            return false;
        }
        ring.residue(registers[r], registers[r]);
        return true;
    }

    public boolean addMod(int d, int a, int b) {
        if (!canWork(d, a, b)) {
            return false;
        }
        ring.sum(registers[d], registers[a], registers[b]);
        return true;
    }

    public boolean subMod(int d, int a, int b) {
        if (!canWork(d, a, b)) {
            return false;
        }
        ring.difference(registers[d], registers[a], registers[b]);
        return true;
    }

    public boolean mulMod(int d, int a, int b) {
        if (!canWork(d, a, b)) {
            return false;
        }
        ring.product(registers[d], registers[a], registers[b]);
        return true;
    }

    public boolean montMod(int d, int a, int b) {
        if (!canWork(d, a, b)) {
            return false;
        }
        ring.productByR(registers[d], registers[a], registers[b]);
        return true;
    }

    public boolean powMod(int d, int a, int e) {
        if (!canWork(d, a, e)) {
            return false;
        }
        ring.power(registers[d], registers[a], registers[e]);
        return true;
    }

    public int invMod(int d, int a) {
        if (!canWork(d, a, a)) {
            return 2;
        }
        return ring.invert(registers[d], registers[a]) ? 0 : 1;
    }

    public int witness(int a) {
        if (!isReady || !hasRegister(a)) {
            return 2;
        }
        return ring.isProvedCompositeBy(registers[a]) ? 1 : 0;
    }

    public int compare(int a, int b) {
        if (!hasRegister(a) || !hasRegister(b)) {
            return 2;
        }
        return Limbs.order(registers[a], registers[b], limbs);
    }

    private boolean hasLimb(int i) {
        return i >= 0 && i < limbs;
    }

    private boolean hasRegister(int r) {
        return r >= 0 && r < count;
    }

    private boolean canWork(int d, int a, int b) {
        return isReady && hasRegister(d) && hasRegister(a) && hasRegister(b);
    }

    /** Whole numbers without a sign, as rows of k limbs. A row that is written may be one that is read. */
    private static final class Limbs {
        static void copy(int[] into, int[] from, int k) {
            for (int i = 0; i < k; i++) {
                into[i] = from[i];
            }
        }

        static void swap(int[] a, int[] b, int k) {
            for (int i = 0; i < k; i++) {
                int limb = a[i];
                a[i] = b[i];
                b[i] = limb;
            }
        }

        static void setSmall(int[] into, int value, int k) {
            for (int i = 1; i < k; i++) {
                into[i] = 0;
            }
            into[0] = value;
        }

        static boolean isSmall(int[] row, int value, int k) {
            for (int i = 1; i < k; i++) {
                if (row[i] != 0) {
                    return false;
                }
            }
            return row[0] == value;
        }

        static boolean isOdd(int[] row) {
            return (row[0] & 1) != 0;
        }

        static boolean isBitSet(int[] row, int bit) {
            return (row[bit / LIMB_BITS] >>> (bit % LIMB_BITS) & 1) != 0;
        }

        /** The highest bit that is set; -1: none is. */
        static int highestBit(int[] row, int k) {
            for (int bit = k * LIMB_BITS - 1; bit >= 0; bit--) {
                if (isBitSet(row, bit)) {
                    return bit;
                }
            }
            return -1;
        }

        /** -1, 0 or 1: a is less than b, like it, or more. */
        static int order(int[] a, int[] b, int k) {
            for (int i = k - 1; i >= 0; i--) {
                if (a[i] != b[i]) {
                    return (a[i] & LIMB_MASK) < (b[i] & LIMB_MASK) ? -1 : 1;
                }
            }
            return 0;
        }

        /** into becomes a + b; the answer is the carry, 0 or 1. */
        static long add(int[] into, int[] a, int[] b, int k) {
            long carry = 0;
            for (int i = 0; i < k; i++) {
                carry += (a[i] & LIMB_MASK) + (b[i] & LIMB_MASK);
                into[i] = (int) carry;
                carry >>>= LIMB_BITS;
            }
            return carry;
        }

        /** into becomes a - b; the answer is whether that went below 0. */
        static boolean subtract(int[] into, int[] a, int[] b, int k) {
            long borrow = 0;
            for (int i = 0; i < k; i++) {
                borrow += (a[i] & LIMB_MASK) - (b[i] & LIMB_MASK);
                into[i] = (int) borrow;
                borrow >>= LIMB_BITS;
            }
            return borrow != 0;
        }

        /** The row grows by factor times other; the answer is the limb that is carried out. */
        static long addMultiple(int[] row, int[] other, int factor, int k) {
            long f = factor & LIMB_MASK;
            long carry = 0;
            for (int i = 0; i < k; i++) {
                // At most 2^64 - 1 in all, so nothing is lost if the shift takes no sign along.
                carry += f * (other[i] & LIMB_MASK) + (row[i] & LIMB_MASK);
                row[i] = (int) carry;
                carry >>>= LIMB_BITS;
            }
            return carry;
        }

        /** The row loses its lowest limb, top's low half comes in above; the answer is top's high half. */
        static long dropLimb(int[] row, long top, int k) {
            for (int i = 1; i < k; i++) {
                row[i - 1] = row[i];
            }
            row[k - 1] = (int) top;
            return top >>> LIMB_BITS;
        }

        /** The row loses its lowest bit, the bit top comes in above. */
        static void halve(int[] row, long top, int k) {
            long above = top;
            for (int i = k - 1; i >= 0; i--) {
                long limb = above << LIMB_BITS | (row[i] & LIMB_MASK);
                row[i] = (int) (limb >>> 1);
                above = limb & 1;
            }
        }
    }

    /**
     * The numbers modulo an odd one. R is 2 to 32 k; a number x stands in Montgomery's form as x R, which
     * montgomery() keeps; unit is 1 in that form. The work rows are made once, so that no call makes any. The row
     * into may be one of those that are read, but for raise().
     */
    private static final class Ring {
        final int[] modulus;
        private final int k;
        private final int bits;
        private final int[] one;
        private final int[] unit;
        private final int[] rSquared;
        private final int[] running;
        private final int[] left;
        private final int[] right;
        private final int[] leftShare;
        private final int[] rightShare;
        private int minusInverse;

        Ring(int limbs) {
            k = limbs;
            bits = limbs * LIMB_BITS;
            modulus = new int[limbs];
            one = new int[limbs];
            one[0] = 1;
            unit = new int[limbs];
            rSquared = new int[limbs];
            running = new int[limbs];
            left = new int[limbs];
            right = new int[limbs];
            leftShare = new int[limbs];
            rightShare = new int[limbs];
            minusInverse = 0;
        }

        boolean hasFitModulus() {
            return Limbs.isOdd(modulus) && !Limbs.isSmall(modulus, 1, k);
        }

        /** Works out what montgomery() and its users need of a fit modulus. */
        void prepare() {
            minusInverse = -inverseOfLimb(modulus[0]);
            Limbs.copy(unit, one, k);
            doubleOften(unit);
            Limbs.copy(rSquared, unit, k);
            doubleOften(rSquared);
        }

        void residue(int[] into, int[] a) {
            montgomery(into, a, rSquared);
            montgomery(into, into, one);
        }

        void sum(int[] into, int[] a, int[] b) {
            residue(left, a);
            residue(right, b);
            addBelow(into, left, right);
        }

        void difference(int[] into, int[] a, int[] b) {
            residue(left, a);
            residue(right, b);
            subtractBelow(into, left, right);
        }

        void product(int[] into, int[] a, int[] b) {
            montgomery(left, a, rSquared);
            montgomery(into, left, b);
        }

        void productByR(int[] into, int[] a, int[] b) {
            product(left, a, b);
            montgomery(into, left, one);
        }

        void power(int[] into, int[] a, int[] exponent) {
            montgomery(left, a, rSquared);
            raise(right, left, exponent, 0);
            montgomery(into, right, one);
        }

        /** Whether a has an inverse; if so, into becomes it. */
        boolean invert(int[] into, int[] a) {
            residue(left, a);
            Limbs.copy(right, modulus, k);
            Limbs.copy(leftShare, one, k);
            Limbs.setSmall(rightShare, 0, k);
            // A step that halves takes one of the bits of left and right, and after any other step left is even.
            int mostSteps = 4 * bits + 2;
            for (int step = 0; step < mostSteps && !Limbs.isSmall(left, 0, k); step++) {
                stepTowardsDivisor();
            }
            if (!Limbs.isSmall(right, 1, k)) {
                return false;
            }
            Limbs.copy(into, rightShare, k);
            return true;
        }

        /**
         * Miller's rule. The modulus differs from the modulus less 1 in bit 0 alone, so the bits of t are the
         * modulus's own from bit s up.
         */
        boolean isProvedCompositeBy(int[] a) {
            montgomery(left, a, rSquared);
            if (Limbs.isSmall(left, 0, k)) {
                return false;
            }
            int s = twosInModulusLessOne();
            int[] minusOne = leftShare;
            subtractBelow(minusOne, modulus, unit);
            raise(right, left, modulus, s);
            if (Limbs.order(right, unit, k) == 0) {
                return false;
            }
            for (int squares = 0; squares < s; squares++) {
                if (Limbs.order(right, minusOne, k) == 0) {
                    return false;
                }
                montgomery(right, right, right);
            }
            return true;
        }

        /**
         * Into becomes a b by R, below the modulus m. One of a and b must be below m, the other may be any row:
         * then a b is below R m, and what stands before the last step below 2 m.
         */
        private void montgomery(int[] into, int[] a, int[] b) {
            Limbs.setSmall(running, 0, k);
            long top = 0;
            for (int i = 0; i < k; i++) {
                top += Limbs.addMultiple(running, b, a[i], k);
                top += Limbs.addMultiple(running, modulus, running[0] * minusInverse, k);
                top = Limbs.dropLimb(running, top, k);
            }
            Limbs.copy(into, running, k);
            bringBelow(into, top);
        }

        /**
         * Into becomes base to the number that the exponent's bits from lowest up tell. Both are in Montgomery's
         * form, and into is a row of its own.
         */
        private void raise(int[] into, int[] base, int[] exponent, int lowest) {
            Limbs.copy(into, unit, k);
            for (int bit = Limbs.highestBit(exponent, k); bit >= lowest; bit--) {
                montgomery(into, into, into);
                if (Limbs.isBitSet(exponent, bit)) {
                    montgomery(into, into, base);
                }
            }
        }

        /**
         * A step of the binary rule for the greatest common divisor of left and right, right being odd. The shares
         * times the number to be inverted stay left and right, modulo the modulus.
         */
        private void stepTowardsDivisor() {
            if (!Limbs.isOdd(left)) {
                Limbs.halve(left, 0, k);
                halveBelow(leftShare);
                return;
            }
            if (Limbs.order(left, right, k) < 0) {
                Limbs.swap(left, right, k);
                Limbs.swap(leftShare, rightShare, k);
            }
            Limbs.subtract(left, left, right, k);
            subtractBelow(leftShare, leftShare, rightShare);
        }

        private void addBelow(int[] into, int[] a, int[] b) {
            long top = Limbs.add(into, a, b, k);
            bringBelow(into, top);
        }

        private void subtractBelow(int[] into, int[] a, int[] b) {
            if (Limbs.subtract(into, a, b, k)) {
                Limbs.add(into, into, modulus, k);
            }
        }

        private void halveBelow(int[] row) {
            long top = Limbs.isOdd(row) ? Limbs.add(row, row, modulus, k) : 0;
            Limbs.halve(row, top, k);
        }

        /** The row, with the limb top above it, is below twice the modulus; it becomes its residue. */
        private void bringBelow(int[] row, long top) {
            if (top != 0 || Limbs.order(row, modulus, k) >= 0) {
                Limbs.subtract(row, row, modulus, k);
            }
        }

        private void doubleOften(int[] row) {
            for (int i = 0; i < bits; i++) {
                addBelow(row, row, row);
            }
        }

        /** The s of Miller's rule. */
        private int twosInModulusLessOne() {
            int s = 1;
            while (s < bits - 1 && !Limbs.isBitSet(modulus, s)) {
                s++;
            }
            return s;
        }

        /** The inverse of an odd limb modulo 2^32: the limb itself is right in 3 bits, and a round doubles them. */
        private static int inverseOfLimb(int limb) {
            int inverse = limb;
            for (int round = 0; round < 4; round++) {
                inverse *= 2 - limb * inverse;
            }
            return inverse;
        }
    }
}
