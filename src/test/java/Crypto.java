import java.math.BigInteger;
import java.security.MessageDigest;
import java.security.NoSuchAlgorithmException;
import java.util.Arrays;

/** Digests and the curve, with the means of the Java library: slow and plain, to hold the program against. */
final class Crypto {
    static final BigInteger TWO = BigInteger.TWO;
    static final BigInteger P = TWO.pow(256).subtract(TWO.pow(32)).subtract(BigInteger.valueOf(977));
    static final BigInteger N = TWO.pow(256).subtract(new BigInteger("432420386565659656852420866394968145599"));
    static final BigInteger[] BASE = {
        new BigInteger("55066263022277343669578718895168534326250603453777594175500187360389116729240"),
        new BigInteger("32670510020758816978083085130507043184471273380659243275938904335757337482424")};
    static final BigInteger[] NONE = null;

    private Crypto() {
    }

    static byte[] digest(byte[] bytes) {
        try {
            return MessageDigest.getInstance("SHA-256").digest(bytes);
        } catch (NoSuchAlgorithmException e) {
            throw new IllegalStateException(e);
        }
    }

    static byte[] name(byte[] bytes) {
        return digest(digest(bytes));
    }

    private static final int[] RHO = {7, 4, 13, 1, 10, 6, 15, 3, 12, 0, 9, 5, 2, 14, 11, 8};
    /** The turn of each word in each round. */
    private static final int[][] TURNS = {
        {11, 14, 15, 12, 5, 8, 7, 9, 11, 13, 14, 15, 6, 7, 9, 8},
        {12, 13, 11, 15, 6, 9, 9, 7, 12, 15, 11, 13, 7, 8, 7, 7},
        {13, 15, 14, 11, 7, 7, 6, 8, 13, 14, 13, 12, 5, 5, 6, 9},
        {14, 11, 12, 14, 8, 6, 5, 5, 15, 12, 15, 14, 9, 9, 8, 6},
        {15, 12, 13, 13, 9, 5, 8, 6, 14, 11, 12, 11, 8, 6, 5, 5}};

    private static int mixed(int round, int x, int y, int z) {
        switch (round) {
            case 0: return x ^ y ^ z;
            case 1: return (x & y) | (~x & z);
            case 2: return (x | ~y) ^ z;
            case 3: return (x & z) | (y & ~z);
            default: return x ^ (y | ~z);
        }
    }

    private static int rootOf(int prime, boolean cube) {
        double root = cube ? Math.cbrt(prime) : Math.sqrt(prime);
        return prime == 0 ? 0 : (int) (long) Math.floor(root * (1L << 30));
    }

    /** RIPEMD-160, its tables made by its rules and not written out. */
    static byte[] ripe(byte[] bytes) {
        int padded = (bytes.length + 8) / 64 * 64 + 64;
        byte[] all = Arrays.copyOf(bytes, padded);
        all[bytes.length] = (byte) 128;
        for (int i = 0; i < 8; i++) {
            all[padded - 8 + i] = (byte) (8L * bytes.length >>> 8 * i);
        }
        int[] state = {0x67452301, 0xefcdab89, 0x98badcfe, 0x10325476, 0xc3d2e1f0};
        int[] primes = {0, 2, 3, 5, 7};
        for (int at = 0; at < padded; at += 64) {
            int[] words = new int[16];
            for (int i = 0; i < 64; i++) {
                words[i / 4] |= (all[at + i] & 255) << 8 * (i % 4);
            }
            int[][] lines = new int[2][];
            for (int side = 0; side < 2; side++) {
                int[] v = state.clone();
                int[] order = new int[16];
                for (int i = 0; i < 16; i++) {
                    order[i] = side == 0 ? i : (9 * i + 5) % 16;
                }
                for (int round = 0; round < 5; round++) {
                    int added = side == 0 ? rootOf(primes[round], false) : rootOf(primes[(round + 1) % 5], true);
                    for (int i = 0; i < 16; i++) {
                        int word = order[i];
                        int f = mixed(side == 0 ? round : 4 - round, v[1], v[2], v[3]);
                        int sum = Integer.rotateLeft(v[0] + f + words[word] + added, TURNS[round][word]) + v[4];
                        v = new int[] {v[4], sum, v[1], Integer.rotateLeft(v[2], 10), v[3]};
                    }
                    for (int i = 0; i < 16; i++) {
                        order[i] = RHO[order[i]];
                    }
                }
                lines[side] = v;
            }
            int[] next = new int[5];
            for (int i = 0; i < 5; i++) {
                next[i] = state[(i + 1) % 5] + lines[0][(i + 2) % 5] + lines[1][(i + 3) % 5];
            }
            state = next;
        }
        byte[] out = new byte[20];
        for (int i = 0; i < 20; i++) {
            out[i] = (byte) (state[i / 4] >>> 8 * (i % 4));
        }
        return out;
    }

    static BigInteger[] sum(BigInteger[] a, BigInteger[] b) {
        if (a == NONE) {
            return b;
        }
        if (b == NONE) {
            return a;
        }
        BigInteger slope;
        if (a[0].equals(b[0])) {
            if (!a[1].equals(b[1])) {
                return NONE;
            }
            slope = a[0].pow(2).multiply(BigInteger.valueOf(3)).multiply(a[1].shiftLeft(1).modInverse(P)).mod(P);
        } else {
            slope = b[1].subtract(a[1]).multiply(b[0].subtract(a[0]).modInverse(P)).mod(P);
        }
        BigInteger x = slope.pow(2).subtract(a[0]).subtract(b[0]).mod(P);
        return new BigInteger[] {x, slope.multiply(a[0].subtract(x)).subtract(a[1]).mod(P)};
    }

    static BigInteger[] times(BigInteger often, BigInteger[] point) {
        BigInteger[] all = NONE;
        for (int i = often.bitLength() - 1; i >= 0; i--) {
            all = sum(all, all);
            if (often.testBit(i)) {
                all = sum(all, point);
            }
        }
        return all;
    }

    static BigInteger number(byte[] bytes, int from, int to) {
        return new BigInteger(1, Arrays.copyOfRange(bytes, from, to));
    }

    static byte[] wide(BigInteger number) {
        byte[] out = new byte[32];
        for (int i = 0; i < 32; i++) {
            out[31 - i] = number.shiftRight(8 * i).byteValue();
        }
        return out;
    }

    /** The point of a key; NONE if it is no key. */
    static BigInteger[] point(byte[] key) {
        boolean isShort = key.length == 33 && (key[0] == 2 || key[0] == 3);
        boolean isLong = key.length == 65 && key[0] == 4;
        if (!isShort && !isLong) {
            return NONE;
        }
        BigInteger x = number(key, 1, 33);
        if (x.compareTo(P) >= 0) {
            return NONE;
        }
        BigInteger square = x.pow(3).add(BigInteger.valueOf(7)).mod(P);
        BigInteger y;
        if (isLong) {
            y = number(key, 33, 65);
        } else {
            y = square.modPow(P.add(BigInteger.ONE).shiftRight(2), P);
            if (y.testBit(0) != (key[0] == 3)) {
                y = P.subtract(y);
            }
        }
        return y.compareTo(P) < 0 && y.pow(2).mod(P).equals(square) ? new BigInteger[] {x, y} : NONE;
    }

    static byte[] key(BigInteger secret, boolean isShort) {
        return key(times(secret, BASE), isShort);
    }

    static byte[] key(BigInteger[] point, boolean isShort) {
        byte[] out = new byte[isShort ? 33 : 65];
        out[0] = (byte) (!isShort ? 4 : point[1].testBit(0) ? 3 : 2);
        System.arraycopy(wide(point[0]), 0, out, 1, 32);
        if (!isShort) {
            System.arraycopy(wide(point[1]), 0, out, 33, 32);
        }
        return out;
    }

    /** The numbers r and s of a signature; null if it is none. */
    static BigInteger[] numbers(byte[] signature) {
        int size = signature.length - 1;
        if (size < 8 || signature[0] != 48 || signature[1] != size - 2) {
            return null;
        }
        BigInteger[] out = new BigInteger[2];
        int at = 2;
        for (int i = 0; i < 2; i++) {
            if (at + 2 > size || signature[at] != 2) {
                return null;
            }
            int wide = signature[at + 1];
            at += 2;
            if (wide < 1 || wide > 33 || at + wide > size || signature[at] < 0) {
                return null;
            }
            if (signature[at] == 0 && wide > 1 && signature[at + 1] >= 0) {
                return null;
            }
            out[i] = number(signature, at, at + wide);
            if (out[i].bitLength() > 256) {
                return null;
            }
            at += wide;
        }
        return at == size ? out : null;
    }

    static boolean fits(BigInteger[] numbers, BigInteger[] key, BigInteger z) {
        for (BigInteger one : numbers) {
            if (one.signum() <= 0 || one.compareTo(N) >= 0) {
                return false;
            }
        }
        BigInteger over = numbers[1].modInverse(N);
        BigInteger[] point = sum(times(z.multiply(over).mod(N), BASE), times(numbers[0].multiply(over).mod(N), key));
        return point != NONE && point[0].mod(N).equals(numbers[0]);
    }

    static byte[] encode(BigInteger r, BigInteger s, int kind) {
        byte[] one = r.toByteArray();
        byte[] two = s.toByteArray();
        byte[] out = new byte[7 + one.length + two.length];
        out[0] = 48;
        out[1] = (byte) (out.length - 3);
        out[2] = 2;
        out[3] = (byte) one.length;
        System.arraycopy(one, 0, out, 4, one.length);
        out[4 + one.length] = 2;
        out[5 + one.length] = (byte) two.length;
        System.arraycopy(two, 0, out, 6 + one.length, two.length);
        out[out.length - 1] = (byte) kind;
        return out;
    }

    static byte[] sign(BigInteger secret, BigInteger z, int kind, long nonce) {
        BigInteger k = number(digest(BigInteger.valueOf(nonce).toByteArray()), 0, 32).mod(N);
        BigInteger r = times(k, BASE)[0].mod(N);
        BigInteger s = k.modInverse(N).multiply(z.add(r.multiply(secret))).mod(N);
        return encode(r, s, kind);
    }
}
