import java.math.BigInteger;
import java.util.ArrayList;
import java.util.Arrays;
import java.util.List;

/** The edges of signatures: which are asked for, what they look like, what they sign, and which fit. */
final class SignatureEdges {
    private static final String FITS_172 = "172 s k: whether the signature s FITS the key k; 173 the same, and 105.";
    private static final String SEVERAL = "174 x s1 .. sm m k1 .. kn n (0 <= n <= 8, 0 <= m <= n): whether the signatures fit "
            + "keys in their order: from the last signature and the last key on: if they fit both are done, else the key (x may "
            + "be anything); until there are no signatures (1), or more signatures than keys (0); 175 the same, and 105.";
    private static final String ASKED = "Each pair that is looked at is a signature ASKED for.";
    private static final String SIGNATURE = "A SIGNATURE's last byte is its KIND, the others are: 48, a length (of all behind "
            + "it), and twice 2, a length 1 .. 33, and so many bytes:";
    private static final String NUMBER = "a number below 2 ^ 256, the highest byte first, the first byte below 128, and 0 only "
            + "if there is one byte, or the second one is 128 or more; nothing behind.";
    private static final String KEY = "A key are 33 bytes: 2 or 3, and x (the highest byte first), which stands for the point "
            + "with that x and an even (2) or odd (3) y; or 65: 4, x and y.";
    private static final String POINTS = "POINTS: x, y below P = 2 ^ 256 - 2 ^ 32 - 977 with y * y = x * x * x + 7 modulo P, and "
            + "NONE; sums as of such curves.";
    private static final String BASE = "N = 2 ^ 256 - 432420386565659656852420866394968145599; the BASE has x = "
            + "55066263022277343669578718895168534326250603453777594175500187360389116729240 and y = "
            + "32670510020758816978083085130507043184471273380659243275938904335757337482424.";
    private static final String FITS = "r, s fits the key Q if r and s are 1 .. N - 1 and (z / s) times the base + (r / s) times "
            + "Q (modulo N) is not NONE, and its x leaves r by N.";
    private static final String Z = "z is the name (as a number, the highest byte first) of these bytes: the transaction, "
            + "changed, and the kind in 4 bytes low first.";
    private static final String CHANGED = "Changed so: the scripts of all inputs are empty, but that of the input that is looked "
            + "at is the coin's script.";
    private static final String KIND_2 = "With k the kind's lowest five bits (others than these two change nothing more): k = 2: "
            + "no outputs, and the sequences of all other inputs are 0.";
    private static final String KIND_3 = "k = 3: the outputs up to the one with the input's number, all before it with value -1 "
            + "and an empty script, and the sequences of all other inputs 0 (if there is no such output, z is the number 1).";
    private static final String KIND_128 = "If the kind is 128 or more the other inputs are left out.";
    private static final String NOTHING = "What is no signature or no key, or empty, fits nothing.";

    private static final BigInteger N = Crypto.N;
    private static final BigInteger P = Crypto.P;
    private static final BigInteger ONE = BigInteger.ONE;
    private static final byte[] LOCK = Kit.bytes(172);
    private static final BigInteger SECRET = new BigInteger("123456789012345678901234567890123456789");
    private static Run run;
    private static int used;
    private static long nonce;

    private SignatureEdges() {
    }

    static void all() {
        edge(FITS_172, "it fits, it does not; what each leaves", SignatureEdges::ofOne);
        edge(SEVERAL, "two of three, in each order", SignatureEdges::twoOfThree);
        edge(SEVERAL, "n and m are 0, m is 0, m is n, n is 8", SignatureEdges::manyOrNone);
        edge(SEVERAL, "x is anything, or missing", SignatureEdges::anything);
        edge(ASKED, "8 and 9, by 172 and 173", SignatureEdges::askedByOne);
        edge(ASKED, "174 asks no more than it needs", SignatureEdges::askedBySeveral);
        edge(SIGNATURE, "the shortest and the longest one", SignatureEdges::lengths);
        edge(SIGNATURE, "each byte of its form, one more and one less", SignatureEdges::form);
        edge(SIGNATURE, "lengths 0 and 34", SignatureEdges::noLengths);
        edge(NUMBER, "first bytes 127, 128, and 0 before them", SignatureEdges::firstBytes);
        edge(NUMBER, "something behind", SignatureEdges::somethingBehind);
        edge(NUMBER, "33 bytes of which the first is not 0", SignatureEdges::tooHigh);
        edge(KEY, "2 and 3, 4, and other first bytes", SignatureEdges::firstOfKeys);
        edge(KEY, "32, 33, 34, 64, 65, 66 bytes", SignatureEdges::sizesOfKeys);
        edge(POINTS, "no such x, no such y, x from P on", SignatureEdges::noPoints);
        edge(POINTS, "the key is the base, and what is opposite of it", SignatureEdges::pointsThatMeet);
        edge(BASE, "the secrets 1 and N - 1", SignatureEdges::outermostSecrets);
        edge(FITS, "s is 0, 1, N - 1, N, N + 1", SignatureEdges::edgesOfS);
        edge(FITS, "r is 0, 1, the highest, N and above", SignatureEdges::edgesOfR);
        edge(FITS, "an x from N on", SignatureEdges::xAboveN);
        edge(FITS, "the sum is NONE", SignatureEdges::sumIsNone);
        edge(FITS, "twice the same point", SignatureEdges::sameSummands);
        edge(Z, "each kind stands in it", SignatureEdges::kindIsSigned);
        edge(Z, "version, time, names, indexes, sequences, values, scripts", SignatureEdges::allIsSigned);
        edge(CHANGED, "the scripts of the others, and a coin's script of 200 bytes", SignatureEdges::scriptsOfInputs);
        edge(CHANGED, "the input's own script asks", SignatureEdges::ownScriptAsks);
        edge(KIND_2, "1, 2, 3, 4 and 31, and their higher bits", SignatureEdges::lowestBits);
        edge(KIND_2, "outputs and sequences may change, the own one not", SignatureEdges::kind2);
        edge(KIND_3, "the first output, the last one", SignatureEdges::kind3);
        edge(KIND_3, "no such output", SignatureEdges::noSuchOutput);
        edge(KIND_128, "127, 128", SignatureEdges::from128);
        edge(KIND_128, "with 2 and 3", SignatureEdges::aloneWithout);
        edge(NOTHING, "it is no fault", SignatureEdges::fitsNothing);
    }

    private static void edge(String sentence, String what, Runnable test) {
        Edge.of(3, sentence, what, () -> {
            run = null;
            test.run();
        });
    }

    /** A run with 8 coins of that lock; the same as before if there are coins and calls left. */
    private static void ready(int coins, Object... lock) {
        if (run == null || used + coins > 8 || run.calls > 440 || !Arrays.equals(Kit.script(lock), lockOf())) {
            run = new Run().grow(8, 8, lock);
            run.answers(0);
            used = 0;
        }
    }

    private static byte[] lockOf() {
        return run.root(1).outs.get(0).script;
    }

    /** A transaction that spends the next coins and makes outputs. */
    private static Kit.Tx plain(int inputs, int outputs) {
        ready(inputs, 172);
        return spending(inputs, outputs);
    }

    private static Kit.Tx spending(int inputs, int outputs) {
        Kit.Tx tx = new Kit.Tx().time(Run.mark());
        for (int i = 0; i < inputs; i++) {
            tx.in(run.root(1), used + i);
            tx.ins.get(i).sequence = 100 + i;
        }
        for (int i = 0; i < outputs; i++) {
            tx.out(10 + i, 81 + i);
        }
        return tx;
    }

    /** Whether the node takes it; its coins are used then. */
    private static boolean comes(Kit.Tx tx) {
        int code = run.code(tx);
        Edge.due("0 or 10, not " + code, code == 0 || code == 10, true);
        if (code == 0) {
            used += tx.ins.size();
        }
        return code == 0;
    }

    /** The same transaction, to be changed. */
    private static Kit.Tx copy(Kit.Tx tx) {
        Kit.Tx out = new Kit.Tx().time(tx.time);
        out.version = tx.version;
        for (Kit.In in : tx.ins) {
            Kit.In next = new Kit.In(in.name.clone(), in.index, in.script);
            next.sequence = in.sequence;
            out.ins.add(next);
        }
        for (Kit.Out one : tx.outs) {
            out.outs.add(new Kit.Out(one.value, one.script));
        }
        return out;
    }

    /** The transaction with empty scripts but that of one input. */
    private static Kit.Tx bare(Kit.Tx tx, int input, byte[] lock) {
        Kit.Tx out = copy(tx);
        for (int i = 0; i < out.ins.size(); i++) {
            out.ins.get(i).script = i == input ? lock : new byte[0];
        }
        return out;
    }

    private static BigInteger z(Kit.Tx changed, int kind) {
        return new BigInteger(1, Crypto.name(Kit.joined(changed.bytes(), Kit.low(kind, 4))));
    }

    private static byte[] sign(BigInteger z, int kind) {
        return Crypto.sign(SECRET, z, kind, ++nonce);
    }

    private static byte[] key() {
        return Crypto.key(SECRET, true);
    }

    /** Whether the input holds with this signature of the secret's key; the other inputs are signed with kind 1. */
    private static boolean holds(Kit.Tx tx, int input, byte[] signature) {
        for (int i = 0; i < tx.ins.size(); i++) {
            byte[] one = i == input ? signature : sign(z(bare(tx, i, LOCK), 1), 1);
            tx.ins.get(i).script = Kit.script(one, key());
        }
        return comes(tx);
    }

    private static boolean holds(Kit.Tx tx, byte[] signature, byte[] key) {
        tx.ins.get(0).script = Kit.script(signature, key);
        return comes(tx);
    }

    private static void ofOne() {
        Kit.Tx tx = plain(1, 1);
        byte[] good = sign(z(bare(tx, 0, LOCK), 1), 1);
        Edge.due("another key", holds(tx, good, Crypto.key(SECRET.add(ONE), true)), false);
        Edge.due("another signature", holds(tx, sign(ONE, 1), key()), false);
        Edge.due("it fits", holds(tx, good, key()), true);
        for (int code : new int[] {172, 173}) {
            ready(1, code, 116, 145);
            tx = spending(1, 1);
            good = sign(z(bare(tx, 0, lockOf()), 1), 1);
            // 172 leaves one element, 173 none
            tx.ins.get(0).script = Kit.script(sign(ONE, 1), key());
            Edge.due(code + " leaves none if it does not fit", comes(tx), false);
            tx.ins.get(0).script = Kit.script(good, key());
            Edge.due(code + " leaves none", comes(tx), code == 173);
        }
        ready(1, 172, 145);
        tx = spending(1, 1);
        tx.ins.get(0).script = Kit.script(sign(ONE, 1), key());
        Edge.due("0 if it does not fit", comes(tx), true);
    }

    private static byte[] keyOf(int i) {
        return Crypto.key(SECRET.add(BigInteger.valueOf(i)), true);
    }

    private static byte[] signOf(int i, Kit.Tx tx) {
        return Crypto.sign(SECRET.add(BigInteger.valueOf(i)), z(bare(tx, 0, lockOf()), 1), 1, ++nonce);
    }

    private static void twoOfThree() {
        int[][] tries = {{0, 1}, {0, 2}, {1, 2}, {1, 0}, {2, 0}, {2, 1}, {0, 0}, {2, 2}, {0, 3}, {3, 2}};
        for (Object[] end : new Object[][] {{174}, {175, 81}}) {
            for (int i = 0; i < tries.length; i++) {
                ready(1, Coin.all(Coin.s(82, keyOf(0), keyOf(1), keyOf(2), 83), end));
                Kit.Tx tx = spending(1, 1);
                tx.ins.get(0).script = Kit.script(0, signOf(tries[i][0], tx), signOf(tries[i][1], tx));
                Edge.due("keys " + tries[i][0] + " and " + tries[i][1], comes(tx), i < 3);
            }
        }
    }

    private static void manyOrNone() {
        Coin.yes(0, 0, 0, 174);
        Coin.yes(81, 0, 0, 0, 175);
        Coin.yes(0, Coin.b(128), Coin.b(0, 128), 174);
        Coin.yes(Coin.all(Coin.s(0, 0), Coin.times(8, 81), Coin.s(88, 174)));
        ready(1, 81, keyOf(0), 81, 174);
        Kit.Tx tx = spending(1, 1);
        tx.ins.get(0).script = Kit.script(0, signOf(1, tx));
        Edge.due("1 of 1, another key", comes(tx), false);
        tx.ins.get(0).script = Kit.script(0, signOf(0, tx));
        Edge.due("1 of 1", comes(tx), true);
        ready(1, 83, keyOf(0), keyOf(1), keyOf(2), 83, 174);
        tx = spending(1, 1);
        // three signatures have no room beside the x, so the third is cut: it fits nothing
        tx.ins.get(0).script = Kit.script(0, Coin.b(48), signOf(1, tx), signOf(2, tx));
        Edge.due("2 that fit of 3 that must", comes(tx), false);
        for (int place : new int[] {0, 7}) {
            Object[] keys = Coin.times(8, 81);
            keys[place] = keyOf(0);
            ready(1, Coin.all(Coin.s(81), keys, Coin.s(88, 174)));
            tx = spending(1, 1);
            tx.ins.get(0).script = Kit.script(0, signOf(0, tx));
            Edge.due("1 of 8, key " + place, comes(tx), true);
        }
    }

    private static void anything() {
        for (Object x : new Object[] {0, 81, Coin.b(1, 2, 3, 4, 5, 6), Kit.repeated(0, 75)}) {
            ready(1, 81, keyOf(0), 81, 174);
            Kit.Tx tx = spending(1, 1);
            tx.ins.get(0).script = Kit.script(x, signOf(0, tx));
            Edge.due("with it", comes(tx), true);
        }
        ready(1, 81, keyOf(0), 81, 174);
        Kit.Tx tx = spending(1, 1);
        tx.ins.get(0).script = Kit.script(signOf(0, tx));
        Edge.due("without it", comes(tx), false);
        tx.ins.get(0).script = Kit.script(82, 0, signOf(0, tx));
        Edge.due("what lies below stays", comes(tx), true);
    }

    private static Object[] asking(int many) {
        Object[] out = Coin.s();
        for (int i = 0; i < many; i++) {
            out = Coin.all(out, Coin.s(0, 0, 172, 117));
        }
        return out;
    }

    private static void askedByOne() {
        Coin.yes(Coin.all(asking(8), Coin.s(81)));
        Coin.no(Coin.all(asking(9), Coin.s(81)));
        Coin.yes(Coin.all(Coin.s(81), asking(8), Coin.s(0, 99, 0, 0, 172, 104)));
        // a signature that fits, and one that does not, are asked for alike
        for (int before : new int[] {7, 8}) {
            ready(1, 173, 81);
            Kit.Tx tx = spending(1, 1);
            tx.ins.get(0).script = Kit.joined(Kit.script(asking(before)), Kit.script(sign(z(bare(tx, 0, lockOf()), 1), 1), key()));
            Edge.due(before + " and one by 173", comes(tx), before == 7);
        }
    }

    private static void askedBySeveral() {
        // m, n, and how many pairs are looked at until more signatures than keys are left
        int[][] tries = {{0, 0, 0}, {0, 8, 0}, {1, 1, 1}, {1, 3, 3}, {2, 3, 2}, {3, 3, 1}, {1, 8, 8}, {8, 8, 1}, {5, 8, 4}};
        for (int[] one : tries) {
            Object[] several = Coin.all(Coin.s(0), Coin.times(one[0], 0), Coin.s(number(one[0])), Coin.times(one[1], 81),
                    Coin.s(number(one[1]), 174, 117, 81));
            Coin.yes(Coin.all(asking(8 - one[2]), several));
            Coin.no(Coin.all(asking(9 - one[2]), several));
        }
        // two that fit, the first key of three is not looked at
        for (int before : new int[] {5, 6, 7}) {
            ready(1, 82, keyOf(0), keyOf(1), keyOf(2), 83, 174);
            Kit.Tx tx = spending(1, 1);
            tx.ins.get(0).script = Kit.joined(Kit.script(asking(before)), Kit.script(0, signOf(1, tx), signOf(2, tx)));
            Edge.due(before + " and 2", comes(tx), before < 7);
            ready(1, 82, keyOf(0), keyOf(1), keyOf(2), 83, 174);
            tx = spending(1, 1);
            tx.ins.get(0).script = Kit.joined(Kit.script(asking(before)), Kit.script(0, signOf(0, tx), signOf(1, tx)));
            Edge.due(before + " and 3", comes(tx), before < 6);
        }
    }

    private static Object number(int n) {
        return n == 0 ? (Object) 0 : (Object) (80 + n);
    }

    /** The key with which r and s fit z, where r is an x of the curve. */
    private static byte[] keyFor(BigInteger x, BigInteger s, BigInteger z) {
        BigInteger y = x.pow(3).add(BigInteger.valueOf(7)).modPow(P.add(ONE).shiftRight(2), P);
        BigInteger[] sum = Crypto.sum(Crypto.times(s.mod(N), new BigInteger[] {x, y}),
                Crypto.times(N.subtract(z.mod(N)), Crypto.BASE));
        return Crypto.key(Crypto.times(x.mod(N).modInverse(N), sum), true);
    }

    private static boolean isX(BigInteger x) {
        BigInteger square = x.pow(3).add(BigInteger.valueOf(7)).mod(P);
        return square.modPow(P.subtract(ONE).shiftRight(1), P).equals(ONE);
    }

    /** The next number from there on that is an x of the curve. */
    private static BigInteger xFrom(BigInteger start) {
        BigInteger x = start;
        while (!isX(x)) {
            x = x.add(ONE);
        }
        return x;
    }

    /** Whether r and s, written as they are, hold with the key that they fit. */
    private static boolean fits(BigInteger r, BigInteger s) {
        return fits(r, Crypto.encode(r, s, 1), s);
    }

    private static boolean fits(BigInteger x, byte[] signature, BigInteger s) {
        Kit.Tx tx = plain(1, 1);
        return holds(tx, signature, keyFor(x, s, z(bare(tx, 0, LOCK), 1)));
    }

    private static byte[] der(byte[] r, byte[] s, int... behind) {
        return Kit.joined(Kit.bytes(48, 4 + r.length + s.length, 2, r.length), r, Kit.bytes(2, s.length), s,
                Kit.bytes(behind), Kit.bytes(1));
    }

    private static void lengths() {
        Edge.due("two numbers of a byte", Crypto.encode(ONE, ONE, 1).length, 9);
        Edge.due("1 and 1", fits(ONE, ONE), true);
        BigInteger r = xFrom(N.subtract(BigInteger.valueOf(100)));
        Edge.due("below N", r.compareTo(N) < 0, true);
        BigInteger s = N.subtract(ONE);
        Edge.due("two numbers of 33 bytes", Crypto.encode(r, s, 1).length, 73);
        Edge.due("the highest ones", fits(r, s), true);
        Edge.due("1 and 33 bytes", fits(ONE, s), true);
        Edge.due("33 bytes and 1", fits(r, ONE), true);
        byte[] least = Crypto.encode(ONE, ONE, 1);
        Edge.due("without the kind", fits(ONE, Arrays.copyOf(least, 8), ONE), false);
    }

    private static void form() {
        byte[] least = Kit.bytes(48, 6, 2, 1, 1, 2, 1, 1, 1);
        Edge.due("as it is to be", fits(ONE, least, ONE), true);
        for (int at : new int[] {0, 1, 2, 3, 5, 6}) {
            for (int by : new int[] {1, -1, 128}) {
                byte[] other = least.clone();
                other[at] += (byte) by;
                Edge.due("byte " + at + " by " + by, fits(ONE, other, ONE), false);
            }
        }
    }

    private static void noLengths() {
        byte[] one = Kit.bytes(1);
        byte[] many = Kit.joined(new byte[33], one);
        Edge.due("r without bytes", fits(ONE, der(new byte[0], one), ONE), false);
        Edge.due("s without bytes", fits(ONE, der(one, new byte[0]), ONE), false);
        Edge.due("r of 34", fits(ONE, der(many, one), ONE), false);
        byte[] over = Kit.joined(Kit.bytes(0, 128), new byte[31], one);
        Edge.due("size", over.length, 34);
        Edge.due("r of 34, with nothing idle in it", fits(ONE, der(over, one), ONE), false);
        Edge.due("s of 34, with nothing idle in it", fits(ONE, der(one, over), ONE), false);
        Edge.due("s of 34", fits(ONE, der(one, many), ONE), false);
        byte[] high = N.subtract(ONE).toByteArray();
        Edge.due("33 bytes", high.length, 33);
        Edge.due("s of 33", fits(ONE, der(one, high), N.subtract(ONE)), true);
        Edge.due("nothing at all", fits(ONE, Kit.bytes(48, 0, 1), ONE), false);
    }

    private static void firstBytes() {
        for (int first : new int[] {127, 128}) {
            BigInteger s = BigInteger.valueOf(first);
            Edge.due("s is " + first, fits(ONE, s), true);
            byte[] bare = {(byte) first};
            byte[] more = {0, (byte) first};
            Edge.due("in one byte", fits(ONE, der(Kit.bytes(1), bare), s), first == 127);
            Edge.due("behind a byte 0", fits(ONE, der(Kit.bytes(1), more), s), first == 128);
            BigInteger r = xFrom(s.shiftLeft(248));
            byte[] wide = Crypto.wide(r);
            Edge.due("r begins with it", wide[0], (byte) first);
            Edge.due("in 32 bytes", fits(r, der(wide, Kit.bytes(5)), BigInteger.valueOf(5)), first == 127);
            Edge.due("in 33 bytes", fits(r, der(Kit.joined(Kit.bytes(0), wide), Kit.bytes(5)), BigInteger.valueOf(5)),
                    first == 128);
        }
        Edge.due("two bytes 0", fits(ONE, der(Kit.bytes(1), Kit.bytes(0, 0, 128)), BigInteger.valueOf(128)), false);
        Edge.due("0 and 1", fits(ONE, der(Kit.bytes(0, 1), Kit.bytes(1)), ONE), false);
    }

    private static void somethingBehind() {
        byte[] one = Kit.bytes(1);
        Edge.due("a byte, not counted", fits(ONE, der(one, one, 0), ONE), false);
        byte[] counted = der(one, one, 0);
        counted[1]++;
        Edge.due("a byte, counted", fits(ONE, counted, ONE), false);
        byte[] less = der(one, one);
        less[1]--;
        Edge.due("less is counted", fits(ONE, less, ONE), false);
        Edge.due("a byte missing", fits(ONE, Kit.bytes(48, 6, 2, 1, 1, 2, 1, 1), ONE), false);
        Edge.due("as it is to be", fits(ONE, der(one, one), ONE), true);
    }

    private static void tooHigh() {
        // 2 ^ 256 + 1 would be 1, if only 32 bytes were looked at
        byte[] over = Kit.joined(Kit.bytes(1), new byte[31], Kit.bytes(1));
        Edge.due("size", over.length, 33);
        Edge.due("r", fits(ONE, der(over, Kit.bytes(1)), ONE), false);
        Edge.due("s", fits(ONE, der(Kit.bytes(1), over), ONE), false);
    }

    private static void firstOfKeys() {
        for (int secret = 1; secret <= 6; secret++) {
            BigInteger one = BigInteger.valueOf(secret);
            BigInteger[] point = Crypto.times(one, Crypto.BASE);
            byte[] small = Crypto.key(point, true);
            byte[] big = Crypto.key(point, false);
            Kit.Tx tx = plain(1, 1);
            byte[] signature = Crypto.sign(one, z(bare(tx, 0, LOCK), 1), 1, ++nonce);
            small[0] ^= 1;
            Edge.due("the other y", holds(tx, signature, small), false);
            small[0] ^= 1;
            for (int first : new int[] {0, 1, 4, 5, 6, 7, 130}) {
                byte[] other = small.clone();
                other[0] = (byte) first;
                if (secret == 1) {
                    Edge.due("33 bytes, first " + first, holds(tx, signature, other), false);
                }
            }
            for (int first : new int[] {2, 3, 5, 6, 7}) {
                byte[] other = big.clone();
                other[0] = (byte) first;
                if (secret == 2) {
                    Edge.due("65 bytes, first " + first, holds(tx, signature, other), false);
                }
            }
            Edge.due("it stands for the point", holds(tx, signature, secret % 2 == 0 ? small : big), true);
            tx = plain(1, 1);
            signature = Crypto.sign(one, z(bare(tx, 0, LOCK), 1), 1, ++nonce);
            Edge.due("in both ways", holds(tx, signature, secret % 2 == 0 ? big : small), true);
        }
    }

    private static void sizesOfKeys() {
        byte[] small = key();
        byte[] big = Crypto.key(SECRET, false);
        Kit.Tx tx = plain(1, 1);
        byte[] signature = sign(z(bare(tx, 0, LOCK), 1), 1);
        for (int size : new int[] {0, 1, 32, 34, 65}) {
            Edge.due("the small one in " + size, holds(tx, signature, Arrays.copyOf(small, size)), false);
        }
        for (int size : new int[] {33, 64, 66}) {
            Edge.due("the big one in " + size, holds(tx, signature, Arrays.copyOf(big, size)), false);
        }
        Edge.due("33", holds(tx, signature, small), true);
        tx = plain(1, 1);
        Edge.due("65", holds(tx, sign(z(bare(tx, 0, LOCK), 1), 1), big), true);
    }

    private static void noPoints() {
        Kit.Tx tx = plain(1, 1);
        byte[] signature = sign(z(bare(tx, 0, LOCK), 1), 1);
        Edge.due("5 is no x", isX(BigInteger.valueOf(5)), false);
        List<byte[]> keys = new ArrayList<>();
        keys.add(Kit.joined(Kit.bytes(2), Crypto.wide(BigInteger.valueOf(5))));
        keys.add(Kit.joined(Kit.bytes(3), Crypto.wide(BigInteger.ZERO)));
        keys.add(Kit.joined(Kit.bytes(2), Crypto.wide(P)));
        keys.add(Kit.joined(Kit.bytes(2), Crypto.wide(P.add(ONE))));
        keys.add(Kit.joined(Kit.bytes(2), Kit.repeated(255, 32)));
        byte[] big = Crypto.key(SECRET, false);
        for (int at : new int[] {33, 64}) {
            byte[] other = big.clone();
            other[at] ^= 1;
            keys.add(other);
        }
        BigInteger[] point = Crypto.times(SECRET, Crypto.BASE);
        keys.add(Kit.joined(Kit.bytes(4), Crypto.wide(point[0]), Crypto.wide(P.subtract(point[1]))));
        keys.add(Kit.joined(Kit.bytes(4), Crypto.wide(ONE), Crypto.wide(P.add(BigInteger.TWO))));
        keys.add(Kit.joined(Kit.bytes(4), new byte[64]));
        for (byte[] key : keys) {
            Edge.due(Model.hex(key), holds(tx, signature, key), false);
        }
        Edge.due("a point", holds(tx, signature, big), true);
    }

    /** Keys that are the base or what takes it away: on the way summands are the same, or their sum is NONE. */
    private static void pointsThatMeet() {
        BigInteger three = BigInteger.valueOf(3);
        for (BigInteger secret : new BigInteger[] {ONE, three, N.subtract(ONE), N.subtract(three)}) {
            byte[] key = Crypto.key(secret, true);
            for (int i = 0; i < 40; i++) {
                Kit.Tx tx = plain(1, 1);
                byte[] signature = Crypto.sign(secret, z(bare(tx, 0, LOCK), 1), 1, ++nonce);
                Edge.due("secret " + secret, holds(tx, signature, key), true);
            }
        }
    }

    private static void outermostSecrets() {
        byte[] small = Kit.joined(Kit.bytes(2), Crypto.wide(Crypto.BASE[0]));
        byte[] big = Kit.joined(Kit.bytes(4), Crypto.wide(Crypto.BASE[0]), Crypto.wide(Crypto.BASE[1]));
        for (byte[] key : new byte[][] {small, big}) {
            Kit.Tx tx = plain(1, 1);
            byte[] signature = Crypto.sign(ONE, z(bare(tx, 0, LOCK), 1), 1, ++nonce);
            Edge.due("the base", holds(tx, signature, key), true);
        }
        Kit.Tx tx = plain(1, 1);
        byte[] signature = Crypto.sign(N.subtract(ONE), z(bare(tx, 0, LOCK), 1), 1, ++nonce);
        Edge.due("the base", holds(tx, signature, small), false);
        small[0] = 3;
        Edge.due("the base taken N - 1 times", holds(tx, signature, small), true);
    }

    private static void edgesOfS() {
        Edge.due("1", fits(ONE, ONE), true);
        Edge.due("2", fits(ONE, BigInteger.TWO), true);
        Edge.due("N - 1", fits(ONE, N.subtract(ONE)), true);
        Edge.due("0", fits(ONE, Crypto.encode(ONE, BigInteger.ZERO, 1), ONE), false);
        Edge.due("N", fits(ONE, Crypto.encode(ONE, N, 1), ONE), false);
        Edge.due("N + 1, which would be 1", fits(ONE, Crypto.encode(ONE, N.add(ONE), 1), ONE), false);
        Edge.due("2 ^ 256 - 1", fits(ONE, Crypto.encode(ONE, ONE.shiftLeft(256).subtract(ONE), 1),
                ONE.shiftLeft(256).subtract(ONE).mod(N)), false);
    }

    private static void edgesOfR() {
        Edge.due("1", fits(ONE, BigInteger.TEN), true);
        BigInteger high = xFrom(N.subtract(BigInteger.valueOf(60)));
        Edge.due("below N", high.compareTo(N) < 0, true);
        Edge.due("the highest", fits(high, BigInteger.TEN), true);
        Edge.due("0", fits(ONE, Crypto.encode(BigInteger.ZERO, ONE, 1), ONE), false);
        Edge.due("N", fits(ONE, Crypto.encode(N, ONE, 1), ONE), false);
        Edge.due("N + 1, which would be 1", fits(ONE, Crypto.encode(N.add(ONE), ONE, 1), ONE), false);
        BigInteger above = xFrom(N.add(ONE));
        Edge.due("between N and P", above.compareTo(P) < 0, true);
        Edge.due("the x itself, not what it leaves", fits(above, Crypto.encode(above, ONE, 1), ONE), false);
    }

    private static void xAboveN() {
        BigInteger x = N;
        for (BigInteger s : new BigInteger[] {ONE, N.subtract(ONE), BigInteger.valueOf(77)}) {
            x = xFrom(x.add(ONE));
            Edge.due("what it leaves", fits(x, Crypto.encode(x.subtract(N), s, 1), s), true);
        }
        x = P.subtract(ONE);
        while (!isX(x)) {
            x = x.subtract(ONE);
        }
        Edge.due("the highest x", fits(x, Crypto.encode(x.subtract(N), ONE, 1), ONE), true);
        // an x below that leaves itself, and r + N would be above P
        x = xFrom(P.subtract(N));
        Edge.due("P - N", fits(x, ONE), true);
    }

    private static void sumIsNone() {
        for (long d : new long[] {1, 2, 3}) {
            Kit.Tx tx = plain(1, 1);
            BigInteger z = z(bare(tx, 0, LOCK), 1);
            BigInteger r = N.subtract(z.mod(N)).multiply(BigInteger.valueOf(d).modInverse(N)).mod(N);
            for (BigInteger s : new BigInteger[] {ONE, SECRET, N.subtract(ONE)}) {
                Edge.due("z and r times " + d + " are 0", holds(tx, Crypto.encode(r, s, 1),
                        Crypto.key(BigInteger.valueOf(d), true)), false);
            }
            byte[] good = Crypto.sign(BigInteger.valueOf(d), z, 1, ++nonce);
            Edge.due("the same key", holds(tx, good, Crypto.key(BigInteger.valueOf(d), true)), true);
        }
    }

    private static void sameSummands() {
        // (z / s) times the base and (r / s) times the key are one point: 2 / r times z times the base has the x r
        Kit.Tx tx = plain(1, 1);
        BigInteger z = z(bare(tx, 0, LOCK), 1).mod(N);
        BigInteger half = new BigInteger("98765432109876543210987654321");
        BigInteger r = Crypto.times(half.add(half), Crypto.BASE)[0].mod(N);
        BigInteger s = z.multiply(half.modInverse(N)).mod(N);
        BigInteger secret = z.multiply(r.modInverse(N)).mod(N);
        Edge.due("it fits", holds(tx, Crypto.encode(r, s, 1), Crypto.key(secret, true)), true);
    }

    private static void kindIsSigned() {
        for (int kind : new int[] {0, 1, 127, 128, 255}) {
            Kit.Tx tx = plain(1, 1);
            Kit.Tx bare = bare(tx, 0, LOCK);
            Edge.due("another kind", holds(tx, 0, sign(z(bare, kind ^ 64), kind)), false);
            BigInteger wide = new BigInteger(1, Crypto.name(Kit.joined(bare.bytes(), Kit.bytes(0, 0, 0, kind))));
            Edge.due("the highest byte first", holds(tx, 0, sign(wide, kind)), kind == 0);
            if (kind != 0) {
                Edge.due("kind " + kind, holds(tx, 0, sign(z(bare, kind), kind)), true);
            }
        }
    }

    private static void allIsSigned() {
        Kit.Tx tx = plain(2, 2);
        Kit.Tx bare = bare(tx, 1, LOCK);
        List<Kit.Tx> others = new ArrayList<>();
        for (int i = 0; i < 8; i++) {
            others.add(copy(bare));
        }
        others.get(0).version = 2;
        others.get(1).time++;
        others.get(2).ins.get(0).name[31] ^= 1;
        others.get(3).ins.get(0).index ^= 1;
        others.get(4).ins.get(0).sequence ^= 1;
        others.get(5).ins.get(1).sequence ^= 1;
        others.get(6).outs.get(1).value++;
        others.get(7).outs.get(0).script = Kit.bytes(99);
        for (int i = 0; i < 8; i++) {
            Edge.due("change " + i, holds(tx, 1, sign(z(others.get(i), 1), 1)), false);
        }
        Edge.due("none", holds(tx, 1, sign(z(bare(tx, 1, LOCK), 1), 1)), true);
    }

    private static void scriptsOfInputs() {
        Kit.Tx tx = plain(2, 1);
        byte[] mine = sign(z(bare(tx, 1, LOCK), 1), 1);
        tx.ins.get(0).script = Kit.bytes(1, 2, 3);
        Edge.due("the other's script is another", holds(tx, 1, mine), true);
        tx = plain(2, 1);
        Kit.Tx filled = bare(tx, 1, LOCK);
        filled.ins.get(0).script = LOCK;
        Edge.due("the other's is not its coin's", holds(tx, 1, sign(z(filled, 1), 1)), false);
        // a lock of 200 bytes
        Object[] wide = Coin.all(Coin.s(Kit.repeated(7, 75), 117, Kit.repeated(8, 75), 117), Coin.times(45, 81));
        byte[] lock = Kit.joined(Kit.script(173), Kit.script(wide));
        Edge.due("size", lock.length, 200);
        Object[] parts = new Object[200];
        for (int i = 0; i < 200; i++) {
            parts[i] = lock[i] & 255;
        }
        ready(1, parts);
        tx = spending(1, 1);
        byte[] cut = Arrays.copyOf(lock, 199);
        tx.ins.get(0).script = Kit.script(sign(z(bare(tx, 0, cut), 1), 1), key());
        Edge.due("a byte less", comes(tx), false);
        tx.ins.get(0).script = Kit.script(sign(z(bare(tx, 0, lock), 1), 1), key());
        Edge.due("all of it", comes(tx), true);
    }

    private static void ownScriptAsks() {
        ready(1);
        Kit.Tx tx = spending(1, 1);
        byte[] empty = sign(z(bare(tx, 0, new byte[0]), 1), 1);
        byte[] own = Kit.script(empty, key(), 172);
        tx.ins.get(0).script = own;
        Edge.due("the coin's script, which is empty", comes(tx), true);
        ready(1, 97);
        tx = spending(1, 1);
        tx.ins.get(0).script = Kit.script(sign(z(bare(tx, 0, new byte[0]), 1), 1), key(), 172);
        Edge.due("an empty one", comes(tx), false);
        tx.ins.get(0).script = Kit.script(sign(z(bare(tx, 0, Kit.bytes(97)), 1), 1), key(), 172);
        Edge.due("the coin's script", comes(tx), true);
    }

    private static Kit.Tx withoutOutputs(Kit.Tx tx, int input) {
        Kit.Tx out = bare(tx, input, LOCK);
        out.outs.clear();
        return quiet(out, input);
    }

    private static Kit.Tx quiet(Kit.Tx changed, int input) {
        for (int i = 0; i < changed.ins.size(); i++) {
            if (i != input) {
                changed.ins.get(i).sequence = 0;
            }
        }
        return changed;
    }

    private static Kit.Tx upTo(Kit.Tx tx, int input) {
        Kit.Tx out = quiet(bare(tx, input, LOCK), input);
        out.outs.clear();
        for (int i = 0; i < input; i++) {
            out.outs.add(new Kit.Out(-1, new byte[0]));
        }
        out.outs.add(tx.outs.get(input));
        return out;
    }

    private static Kit.Tx alone(Kit.Tx changed, int input) {
        Kit.In in = changed.ins.get(input);
        changed.ins.clear();
        changed.ins.add(in);
        return changed;
    }

    private static void lowestBits() {
        for (int kind : new int[] {0, 1, 4, 6, 7, 10, 11, 18, 19, 30, 31, 32, 33, 36, 50, 51, 64, 65, 127}) {
            Kit.Tx tx = plain(2, 2);
            Edge.due("all is signed by " + kind, holds(tx, 0, sign(z(bare(tx, 0, LOCK), kind), kind)), true);
        }
        for (int kind : new int[] {2, 34, 66, 98}) {
            Kit.Tx tx = plain(2, 2);
            Edge.due("as by 2: " + kind, holds(tx, 0, sign(z(withoutOutputs(tx, 0), kind), kind)), true);
        }
        for (int kind : new int[] {3, 35, 67, 99}) {
            Kit.Tx tx = plain(2, 2);
            Edge.due("as by 3: " + kind, holds(tx, 0, sign(z(upTo(tx, 0), kind), kind)), true);
        }
    }

    private static void kind2() {
        Kit.Tx tx = plain(2, 2);
        byte[] mine = sign(z(withoutOutputs(tx, 0), 2), 2);
        tx.outs.clear();
        tx.out(1).out(2).out(3);
        tx.ins.get(1).sequence = 4294967295L;
        Edge.due("other outputs, another's sequence", holds(tx, 0, mine), true);
        tx = plain(2, 2);
        mine = sign(z(withoutOutputs(tx, 0), 2), 2);
        tx.ins.get(0).sequence++;
        Edge.due("its own sequence", holds(tx, 0, mine), false);
        tx = plain(1, 1);
        Edge.due("the only input", holds(tx, 0, sign(z(withoutOutputs(tx, 0), 2), 2)), true);
        tx = plain(2, 2);
        Edge.due("all signed", holds(tx, 0, sign(z(bare(tx, 0, LOCK), 2), 2)), false);
        Kit.Tx loud = withoutOutputs(tx, 0);
        loud.ins.get(1).sequence = tx.ins.get(1).sequence;
        Edge.due("another's sequence signed", holds(tx, 0, sign(z(loud, 2), 2)), false);
    }

    private static void kind3() {
        Kit.Tx tx = plain(3, 3);
        for (int input = 0; input < 3; input++) {
            tx = plain(3, 3);
            byte[] mine = sign(z(upTo(tx, input), 3), 3);
            for (int i = 0; i < 3; i++) {
                if (i != input) {
                    tx.outs.get(i).value = 99;
                    tx.outs.get(i).script = Kit.bytes(1, 2, 3);
                    tx.ins.get(i).sequence = 7;
                }
            }
            Edge.due("all but output " + input, holds(tx, input, mine), true);
        }
        tx = plain(2, 2);
        byte[] mine = sign(z(upTo(tx, 1), 3), 3);
        tx.outs.get(1).value++;
        Edge.due("its own output", holds(tx, 1, mine), false);
        tx = plain(2, 2);
        mine = sign(z(upTo(tx, 1), 3), 3);
        tx.ins.get(1).sequence++;
        Edge.due("its own sequence", holds(tx, 1, mine), false);
        tx = plain(2, 2);
        mine = sign(z(upTo(tx, 1), 3), 3);
        tx.out(1);
        Edge.due("one output more", holds(tx, 1, mine), true);
        tx = plain(2, 2);
        Kit.Tx plain = upTo(tx, 1);
        plain.outs.set(0, tx.outs.get(0));
        Edge.due("the one before as it is", holds(tx, 1, sign(z(plain, 3), 3)), false);
    }

    private static void noSuchOutput() {
        for (int kind : new int[] {3, 35, 131}) {
            Kit.Tx tx = plain(2, 1);
            Edge.due("kind " + kind + ", 2 ^ 248", holds(tx, 1, sign(ONE.shiftLeft(248), kind)), false);
            Edge.due("kind " + kind + ", 0", holds(tx, 1, sign(BigInteger.ZERO, kind)), false);
            Edge.due("kind " + kind + ", 1", holds(tx, 1, sign(ONE, kind)), true);
        }
        Kit.Tx tx = plain(3, 1);
        Edge.due("two more", holds(tx, 2, sign(ONE, 3)), true);
        tx = plain(2, 2);
        Edge.due("the last output is there", holds(tx, 1, sign(ONE, 3)), false);
        tx = plain(2, 1);
        Edge.due("not with kind 2", holds(tx, 1, sign(ONE, 2)), false);
    }

    private static void from128() {
        for (int kind : new int[] {1, 127, 128, 129, 255}) {
            Kit.Tx tx = plain(2, 2);
            Kit.Tx all = bare(tx, 1, LOCK);
            Edge.due("all inputs by " + kind, holds(tx, 1, sign(z(all, kind), kind)), kind < 128);
            tx = plain(2, 2);
            Edge.due("one input by " + kind, holds(tx, 1, sign(z(alone(bare(tx, 1, LOCK), 1), kind), kind)), kind >= 128);
        }
        Kit.Tx tx = plain(2, 2);
        byte[] mine = sign(z(alone(bare(tx, 1, LOCK), 1), 129), 129);
        tx.ins.get(0).index = used + 2;
        tx.ins.get(0).sequence = 5;
        Edge.due("another input beside it", holds(tx, 1, mine), true);
        run = null;
        tx = plain(1, 1);
        Edge.due("the only input", holds(tx, 0, sign(z(bare(tx, 0, LOCK), 129), 129)), true);
    }

    private static void aloneWithout() {
        for (int kind : new int[] {130, 162, 226}) {
            Kit.Tx tx = plain(2, 2);
            Edge.due("no outputs by " + kind, holds(tx, 1, sign(z(alone(withoutOutputs(tx, 1), 1), kind), kind)), true);
        }
        for (int kind : new int[] {131, 163, 227}) {
            Kit.Tx tx = plain(2, 2);
            Edge.due("the second output by " + kind, holds(tx, 1, sign(z(alone(upTo(tx, 1), 1), kind), kind)), true);
        }
    }

    private static void fitsNothing() {
        byte[] key = key();
        byte[] least = Crypto.encode(ONE, ONE, 1);
        Coin.leaves(Coin.s(0, 0, 172), Coin.b());
        Coin.leaves(Coin.s(0, key, 172), Coin.b());
        Coin.leaves(Coin.s(least, 0, 172), Coin.b());
        Coin.leaves(Coin.s(least, key, 172), Coin.b());
        Coin.leaves(Coin.s(Coin.b(1), key, 172), Coin.b());
        Coin.leaves(Coin.s(Kit.repeated(48, 75), Kit.repeated(2, 33), 172), Coin.b());
        Coin.leaves(Coin.s(least, Kit.repeated(4, 65), 172), Coin.b());
        Coin.leaves(Coin.s(0, 0, 81, 0, 81, 174), Coin.b());
        Coin.yes(Kit.repeated(255, 120), 0, 172, 145);
        Coin.yes(0, Kit.repeated(255, 120), 172, 145);
        Coin.no(81, 0, 0, 173);
        Coin.no(81, least, key, 173);
    }
}
