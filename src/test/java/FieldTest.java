import java.lang.reflect.Constructor;
import java.lang.reflect.Method;
import java.math.BigInteger;
import java.util.ArrayList;
import java.util.Arrays;
import java.util.List;
import java.util.Random;

/** The arithmetic by the prime and by the order, with numbers at all edges: what random signatures never meet. */
final class FieldTest {
    private static final BigInteger P = Crypto.P;
    private static final BigInteger N = Crypto.N;
    private static final Random RANDOM = new Random(23);
    private static Class<?> point;
    private static Class<?> signature;

    public static void main(String[] args) throws ReflectiveOperationException {
        for (Class<?> one : CoinNode.class.getDeclaredClasses()) {
            point = one.getSimpleName().equals("Point") ? one : point;
            signature = one.getSimpleName().equals("Signature") ? one : signature;
        }
        normalize();
        multiply();
        settle();
        root();
        byOrder();
        digits();
        Kit.end();
    }

    private static Method method(Class<?> of, String name, Class<?>... kinds) throws ReflectiveOperationException {
        Method method = of.getDeclaredMethod(name, kinds);
        method.setAccessible(true);
        return method;
    }

    private static BigInteger number(long[] limbs) {
        BigInteger all = BigInteger.ZERO;
        for (int i = limbs.length - 1; i >= 0; i--) {
            all = all.shiftLeft(26).add(BigInteger.valueOf(limbs[i]));
        }
        return all;
    }

    /** Ten limbs of 26 bits, the highest of which takes what is above. */
    private static long[] limbs(BigInteger number) {
        long[] out = new long[10];
        BigInteger rest = number;
        for (int i = 0; i < 9; i++) {
            out[i] = rest.mod(BigInteger.valueOf(1L << 26)).longValue();
            rest = rest.shiftRight(26);
        }
        out[9] = rest.longValue();
        return out;
    }

    private static List<long[]> edges() {
        List<long[]> out = new ArrayList<>();
        for (int k = -40; k <= 40; k++) {
            for (int d = -3; d <= 3; d++) {
                out.add(limbs(P.multiply(BigInteger.valueOf(k)).add(BigInteger.valueOf(d))));
            }
        }
        for (int bit : new int[] {0, 25, 26, 27, 255, 256, 257, 259, 260, 261}) {
            for (int d = -1; d <= 1; d++) {
                out.add(limbs(BigInteger.TWO.pow(bit).add(BigInteger.valueOf(d))));
                out.add(limbs(BigInteger.TWO.pow(bit).add(BigInteger.valueOf(d)).negate()));
            }
        }
        for (long size : new long[] {1L << 26, 1L << 27, (1L << 29) - 1}) {
            long[] most = new long[10];
            Arrays.fill(most, size);
            out.add(most);
            long[] least = new long[10];
            Arrays.fill(least, -size);
            out.add(least);
            long[] mixed = new long[10];
            for (int i = 0; i < 10; i++) {
                mixed[i] = i % 2 == 0 ? size : -size;
            }
            out.add(mixed);
        }
        for (int i = 0; i < 300; i++) {
            long[] one = new long[10];
            long size = 1L << 20 + RANDOM.nextInt(10);
            for (int j = 0; j < 10; j++) {
                one[j] = Math.max(1 - size, Math.min(size - 1, (long) (RANDOM.nextGaussian() * size)));
            }
            out.add(one);
        }
        return out;
    }

    private static void normalize() throws ReflectiveOperationException {
        Method normalize = method(point, "normalize", long[].class);
        for (long[] one : edges()) {
            BigInteger due = number(one).mod(P);
            long[] got = one.clone();
            boolean isZero = (boolean) normalize.invoke(null, (Object) got);
            Kit.same("normalized " + number(one), Arrays.toString(got), Arrays.toString(limbs(due)));
            Kit.same("is 0", isZero, due.signum() == 0);
        }
    }

    private static boolean isSmall(long[] limbs) {
        for (long limb : limbs) {
            if (limb < -(1L << 24) || limb > (1L << 26) + (1L << 24)) {
                return false;
            }
        }
        return true;
    }

    /** Sums in twice() and add() have no longer limbs than these. */
    private static boolean isUsual(long[] limbs) {
        return Arrays.stream(limbs).allMatch(limb -> Math.abs(limb) <= 1L << 28);
    }

    private static void multiply() throws ReflectiveOperationException {
        Method multiply = method(point, "multiply", long[].class, long[].class, long[].class);
        List<long[]> edges = edges();
        for (int i = 0; i < edges.size(); i++) {
            for (int j = 0; j < 25; j++) {
                long[] a = edges.get(i);
                long[] b = j == 0 ? a : j == 1 ? edges.get(edges.size() - 1 - i) : edges.get(RANDOM.nextInt(edges.size()));
                long[] to = new long[10];
                multiply.invoke(null, to, a, b);
                Kit.same("product", number(to).mod(P), number(a).multiply(number(b)).mod(P));
                Kit.same("is small", isSmall(to) || !isUsual(a) || !isUsual(b), true);
                long[] own = a.clone();
                multiply.invoke(null, own, own, b);
                Kit.same("onto itself", Arrays.toString(own), Arrays.toString(to));
            }
        }
    }

    private static void settle() throws ReflectiveOperationException {
        Method settle = method(point, "settle", long[].class);
        for (long[] one : edges()) {
            long[] got = one.clone();
            settle.invoke(null, (Object) got);
            Kit.same("settled", number(got).mod(P), number(one).mod(P));
            Kit.same("is small", isSmall(got), true);
        }
    }

    private static void root() throws ReflectiveOperationException {
        Method root = method(point, "root", long[].class, long[].class, long[][].class);
        long[][] work = new long[16][10];
        for (long[] one : edges()) {
            if (isSmall(one)) {
                long[] got = new long[10];
                root.invoke(null, got, one, work);
                BigInteger power = P.add(BigInteger.ONE).shiftRight(2);
                Kit.same("root", number(got).mod(P), number(one).mod(P).modPow(power, P));
            }
        }
    }

    private static int[] words(BigInteger number) {
        int[] out = new int[8];
        for (int i = 0; i < 8; i++) {
            out[i] = number.shiftRight(32 * i).intValue();
        }
        return out;
    }

    private static BigInteger number(int[] words) {
        BigInteger all = BigInteger.ZERO;
        for (int i = words.length - 1; i >= 0; i--) {
            all = all.shiftLeft(32).add(BigInteger.valueOf(words[i] & 0xffffffffL));
        }
        return all;
    }

    private static List<BigInteger> wideEdges() {
        List<BigInteger> out = new ArrayList<>();
        BigInteger all = BigInteger.TWO.pow(256);
        for (int d = 0; d < 4; d++) {
            BigInteger one = BigInteger.valueOf(d);
            out.addAll(List.of(one, N.subtract(one), N.add(one), all.subtract(one).mod(all), P.subtract(one),
                    BigInteger.TWO.pow(128).add(one), BigInteger.TWO.pow(255).subtract(one), N.shiftRight(1).add(one)));
        }
        for (int i = 0; i < 40; i++) {
            out.add(new BigInteger(256, RANDOM));
            out.add(new BigInteger(1 + RANDOM.nextInt(256), RANDOM));
        }
        return out;
    }

    private static void byOrder() throws ReflectiveOperationException {
        Constructor<?> maker = signature.getDeclaredConstructor();
        maker.setAccessible(true);
        Object own = maker.newInstance();
        Method multiply = method(signature, "multiply", int[].class, int[].class, int[].class);
        Method invert = method(signature, "invert", int[].class);
        Method spread = method(signature, "spread", int[].class, long[].class);
        for (BigInteger a : wideEdges()) {
            for (BigInteger b : wideEdges()) {
                int[] to = new int[8];
                multiply.invoke(own, to, words(a), words(b));
                Kit.same(a + " times " + b, number(to), a.multiply(b).mod(N));
            }
            int[] over = words(a);
            invert.invoke(own, (Object) over);
            Kit.same("1 over " + a, number(over), a.mod(N).modPow(N.subtract(BigInteger.TWO), N));
            long[] limbs = new long[10];
            spread.invoke(null, words(a), limbs);
            Kit.same("limbs", number(limbs), a);
        }
    }

    private static void digits() throws ReflectiveOperationException {
        Method digits = method(signature, "setDigits", int[].class, int[].class);
        for (BigInteger one : wideEdges()) {
            int[] to = new int[257];
            digits.invoke(null, to, words(one));
            BigInteger all = BigInteger.ZERO;
            for (int i = 256; i >= 0; i--) {
                all = all.shiftLeft(1).add(BigInteger.valueOf(to[i]));
                Kit.same("a digit", to[i] == 0 || to[i] % 2 != 0 && Math.abs(to[i]) < 16, true);
            }
            Kit.same("digits", all, one);
        }
    }
}
