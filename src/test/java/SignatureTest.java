import java.math.BigInteger;
import java.util.Arrays;
import java.util.List;
import java.util.Random;

/** Signatures: which fit, what is signed for each kind, and what is no signature and no key. */
final class SignatureTest {
    private static final byte[] LOCK = Kit.bytes(172);
    private static final BigInteger N = Crypto.N;
    private static final BigInteger P = Crypto.P;
    private static final Random RANDOM = new Random(11);
    private static Kit.Node node;
    private static List<Kit.Block> blocks;
    private static int used;
    private static int time;

    public static void main(String[] args) {
        fitting();
        kinds();
        shapesOfSignatures();
        shapesOfKeys();
        edgesOfNumbers();
        Kit.end();
    }

    private static void fresh() {
        if (node == null || used > 36) {
            node = new Kit.Node(true);
            blocks = Kit.grow(node, Kit.first(), 13, 8, 1, 172);
            used = 0;
        }
    }

    /** A transaction with so many inputs, all locked with 172, and outputs. */
    private static Kit.Tx plain(int inputs, int outputs) {
        fresh();
        Kit.Tx tx = new Kit.Tx().time(time++);
        for (int i = 0; i < inputs; i++) {
            int coin = used++;
            tx.in(blocks.get(coin / 8).txs.get(0), coin % 8);
        }
        for (int i = 0; i < outputs; i++) {
            tx.out(1000 + i, Kit.repeated(i, i), 81);
        }
        return tx;
    }

    private static BigInteger secret() {
        return new BigInteger(256, RANDOM).mod(N);
    }

    private static int code(Kit.Tx tx, int input, byte[] signature, byte[] key) {
        tx.ins.get(input).script = Kit.script(signature, key);
        return node.code(tx);
    }

    private static void fitting() {
        BigInteger[] secrets = {BigInteger.ONE, N.subtract(BigInteger.ONE), BigInteger.TWO, BigInteger.valueOf(3),
            N.subtract(BigInteger.TWO), BigInteger.valueOf(15), BigInteger.valueOf(31), BigInteger.TWO.pow(128),
            BigInteger.TWO.pow(255), N.shiftRight(1), secret(), secret()};
        for (int i = 0; i < 8 * secrets.length; i++) {
            BigInteger secret = secrets[i % secrets.length];
            Kit.Tx tx = plain(1, 1);
            byte[] signature = tx.sign(0, LOCK, secret, 1);
            byte[] key = Crypto.key(secret, i % 3 > 0);
            byte[] other = signature.clone();
            other[20] ^= 1;
            Kit.same("another r", code(tx, 0, other, key), 10);
            Kit.same("another key", code(tx, 0, signature, Crypto.key(secret.add(BigInteger.valueOf(4)).mod(N), true)), 10);
            Kit.same("signed " + i, code(tx, 0, signature, key), 0);
        }
        // the other s of the same signature fits too
        Kit.Tx tx = plain(1, 1);
        BigInteger secret = secret();
        BigInteger[] numbers = Crypto.numbers(tx.sign(0, LOCK, secret, 1));
        byte[] other = Crypto.encode(numbers[0], N.subtract(numbers[1]), 1);
        Kit.same("the other s", code(tx, 0, other, Crypto.key(secret, true)), 0);
    }

    private static void kinds() {
        int[] kinds = {0, 1, 2, 3, 4, 31, 33, 34, 35, 64, 128, 129, 130, 131, 159, 162, 163, 255};
        for (int kind : kinds) {
            for (int input = 0; input < 3; input++) {
                Kit.Tx tx = plain(3, 2);
                tx.ins.get(1).sequence = 5;
                BigInteger[] secrets = {secret(), secret(), secret()};
                for (int i = 0; i < 3; i++) {
                    byte[] signature = tx.sign(i, LOCK, secrets[i], i == input ? kind : 1);
                    tx.ins.get(i).script = Kit.script(signature, Crypto.key(secrets[i], true));
                }
                Kit.same("kind " + kind + " of input " + input, node.code(tx), 0);
            }
        }
        changes();
    }

    /** What may be changed behind a signature of each kind: version, inputs, sequences, outputs, time. */
    private static void changes() {
        for (int kind : new int[] {1, 2, 3, 129, 130, 131}) {
            for (int change = 0; change < 9; change++) {
                Kit.Tx tx = plain(2, 3);
                Kit.Tx spare = plain(1, 1);
                BigInteger secret = secret();
                byte[] mine = tx.sign(1, LOCK, secret, kind);
                boolean allowed;
                boolean bare = (kind & 31) > 1;
                switch (change) {
                    case 0: tx.version = 7; allowed = false; break;
                    case 1: tx.time = 99999; allowed = false; break;
                    case 2: tx.ins.get(0).sequence = 3; allowed = bare || kind > 128; break;
                    case 3: tx.ins.get(1).sequence = 3; allowed = false; break;
                    case 4: tx.outs.get(0).value = 5; allowed = bare; break;
                    case 5: tx.outs.get(1).value = 5; allowed = (kind & 31) == 2; break;
                    case 6: tx.outs.get(2).script = Kit.bytes(82); allowed = bare; break;
                    case 7: tx.ins.set(0, spare.ins.get(0)); allowed = kind > 128; break;
                    default: tx.outs.get(0).script = Kit.bytes(82); allowed = bare; break;
                }
                BigInteger two = secret();
                tx.ins.get(1).script = Kit.script(mine, Crypto.key(secret, true));
                tx.ins.get(0).script = Kit.script(tx.sign(0, LOCK, two, 1), Crypto.key(two, true));
                Kit.same("kind " + kind + " change " + change, node.code(tx), allowed ? 0 : 10);
            }
        }
        Kit.Tx tx = plain(2, 1);
        BigInteger secret = secret();
        byte[] one = Crypto.sign(secret, BigInteger.ONE, 3, 5);
        tx.ins.get(1).script = Kit.script(one, Crypto.key(secret, true));
        tx.ins.get(0).script = Kit.script(tx.sign(0, LOCK, secret, 1), Crypto.key(secret, true));
        Kit.same("no output for the input: the number 1 is signed", node.code(tx), 0);
        tx = plain(2, 1);
        byte[] still = Crypto.sign(secret, BigInteger.ONE, 131, 5);
        tx.ins.get(1).script = Kit.script(still, Crypto.key(secret, true));
        tx.ins.get(0).script = Kit.script(tx.sign(0, LOCK, secret, 1), Crypto.key(secret, true));
        Kit.same("so too without the other inputs", node.code(tx), 0);
    }

    private static byte[] der(byte[] r, byte[] s) {
        return Kit.joined(Kit.bytes(48, 4 + r.length + s.length, 2, r.length), r, Kit.bytes(2, s.length), s,
                Kit.bytes(1));
    }

    private static void shapesOfSignatures() {
        BigInteger secret = secret();
        byte[] key = Crypto.key(secret, true);
        Kit.Tx tx = plain(1, 1);
        byte[] good = tx.sign(0, LOCK, secret, 1);
        BigInteger[] numbers = Crypto.numbers(good);
        byte[] r = numbers[0].toByteArray();
        byte[] s = numbers[1].toByteArray();
        byte[] more = Kit.joined(good, Kit.bytes(1));
        byte[] longR = der(Kit.joined(Kit.bytes(0), r), s);
        byte[] longS = der(r, Kit.joined(Kit.bytes(0), s));
        byte[][] bad = {
            Kit.bytes(), Kit.bytes(1), Kit.bytes(48, 0, 1), Kit.bytes(48, 6, 2, 1, 1, 2, 1, 1),
            Kit.bytes(48, 6, 2, 1, 1, 2, 1, 1, 1), Arrays.copyOf(good, good.length - 1), more, longR, longS,
            der(Kit.bytes(), s), der(r, Kit.bytes()), der(new byte[34], s), der(r, new byte[34]),
            der(Kit.joined(Kit.bytes(1), new byte[32]), s), der(r, Kit.joined(Kit.bytes(1), new byte[32])),
            Kit.joined(good, new byte[30]), new byte[9], new byte[120]};
        for (int i = 0; i < bad.length; i++) {
            Kit.same("no signature " + i, code(tx, 0, bad[i], key), 10);
        }
        for (int at : new int[] {0, 1, 2, 3, 4 + r.length, 5 + r.length}) {
            for (int by : new int[] {1, 2, 128, 255}) {
                byte[] changed = good.clone();
                changed[at] = (byte) (changed[at] + by);
                Kit.same("byte " + at + " by " + by, code(tx, 0, changed, key), 10);
            }
        }
        // a number whose highest bit is set needs the byte 0 before it
        for (int i = 0; i < 2; i++) {
            byte[] number = i == 0 ? r : s;
            if (number[0] == 0) {
                byte[] bare = Arrays.copyOfRange(number, 1, number.length);
                Kit.same("no byte 0", code(tx, 0, i == 0 ? der(bare, s) : der(r, bare), key), 10);
            }
        }
        Kit.same("the good one", code(tx, 0, good, key), 0);
    }

    private static void shapesOfKeys() {
        BigInteger secret = secret();
        BigInteger[] point = Crypto.times(secret, Crypto.BASE);
        Kit.Tx tx = plain(1, 1);
        byte[] good = tx.sign(0, LOCK, secret, 1);
        byte[] small = Crypto.key(point, true);
        byte[] big = Crypto.key(point, false);
        byte[] odd = small.clone();
        odd[0] ^= 1;
        byte[] mixed = big.clone();
        mixed[0] = (byte) (6 + (big[64] & 1));
        byte[] wrongY = big.clone();
        wrongY[64] ^= 1;
        byte[] four = small.clone();
        four[0] = 4;
        byte[] two = big.clone();
        two[0] = 2;
        BigInteger off = BigInteger.valueOf(5); // no point has this x
        byte[] noPoint = Kit.joined(Kit.bytes(2), Crypto.wide(off));
        byte[] prime = Kit.joined(Kit.bytes(2), Crypto.wide(P));
        byte[] above = Kit.joined(Kit.bytes(2), Crypto.wide(P.add(BigInteger.ONE)));
        byte[] aboveY = Kit.joined(Kit.bytes(4), Crypto.wide(BigInteger.ONE), Crypto.wide(P.add(BigInteger.TWO)));
        byte[][] bad = {Kit.bytes(), odd, mixed, wrongY, four, two, noPoint, prime, above, aboveY,
            Arrays.copyOf(small, 32), Arrays.copyOf(small, 34), Arrays.copyOf(big, 64), Arrays.copyOf(big, 66),
            new byte[33], new byte[65], Kit.repeated(255, 33)};
        for (int i = 0; i < bad.length; i++) {
            Kit.same("no key " + i, code(tx, 0, good, bad[i]), 10);
        }
        Kit.same("the good one", code(tx, 0, good, big), 0);
    }

    /** The key with which r and s fit z, if r is the x of a point by the order. */
    private static BigInteger[] keyFor(BigInteger x, BigInteger s, BigInteger z) {
        BigInteger y = x.pow(3).add(BigInteger.valueOf(7)).modPow(P.add(BigInteger.ONE).shiftRight(2), P);
        BigInteger r = x.mod(N);
        BigInteger[] sum = Crypto.sum(Crypto.times(s, new BigInteger[] {x, y}),
                Crypto.times(N.subtract(z.mod(N)), Crypto.BASE));
        return Crypto.times(r.modInverse(N), sum);
    }

    private static boolean isX(BigInteger x) {
        BigInteger square = x.pow(3).add(BigInteger.valueOf(7)).mod(P);
        return square.modPow(P.subtract(BigInteger.ONE).shiftRight(1), P).equals(BigInteger.ONE);
    }

    private static void edgesOfNumbers() {
        Kit.Tx tx = plain(1, 1);
        BigInteger z = Scripts.signed(tx.parsed(), 0, LOCK, 1);
        BigInteger secret = secret();
        byte[] key = Crypto.key(secret, true);
        BigInteger[] good = Crypto.numbers(tx.sign(0, LOCK, secret, 1));
        BigInteger zero = BigInteger.ZERO;
        BigInteger[][] bad = {{zero, good[1]}, {good[0], zero}, {N, good[1]}, {good[0], N}, {zero, zero},
            {good[0].add(N).bitLength() > 256 ? N : good[0].add(N), good[1]}, {N.subtract(good[0]), good[1]},
            {P, good[1]}, {BigInteger.TWO.pow(256).subtract(BigInteger.ONE), good[1]}, {BigInteger.ONE, good[1]},
            {good[0], BigInteger.ONE}, {N.subtract(BigInteger.ONE), N.subtract(BigInteger.ONE)}};
        for (int i = 0; i < bad.length; i++) {
            Kit.same("numbers " + i, code(tx, 0, Crypto.encode(bad[i][0], bad[i][1], 1), key), 10);
        }
        for (long d : new long[] {1, 2, 3, 5}) {
            BigInteger r = N.subtract(z).mod(N).multiply(BigInteger.valueOf(d).modInverse(N)).mod(N);
            for (BigInteger s : new BigInteger[] {BigInteger.ONE, secret()}) {
                Kit.same("a sum that is none", code(tx, 0, Crypto.encode(r, s, 1),
                        Crypto.key(BigInteger.valueOf(d), true)), 10);
                Kit.same("a sum of twice the same", code(tx, 0, Crypto.encode(N.subtract(r), s, 1),
                        Crypto.key(BigInteger.valueOf(d), true)), 10);
            }
        }
        Kit.same("the good one", code(tx, 0, Crypto.encode(good[0], good[1], 1), key), 0);
        // an x from the order up to the prime leaves a small r
        BigInteger x = N;
        for (int i = 0; i < 4; i++) {
            x = x.add(BigInteger.ONE);
            while (!isX(x)) {
                x = x.add(BigInteger.ONE);
            }
            tx = plain(1, 1);
            z = Scripts.signed(tx.parsed(), 0, LOCK, 1);
            BigInteger s = i == 0 ? BigInteger.ONE : i == 1 ? N.subtract(BigInteger.ONE) : secret();
            BigInteger[] point = keyFor(x, s, z);
            byte[] signature = Crypto.encode(x.subtract(N), s, 1);
            Kit.same("x above the order", code(tx, 0, signature, Crypto.key(point, true)), 0);
        }
        // r below the prime less the order, but the x is r itself; and the highest r's
        BigInteger[] starts = {BigInteger.ONE, P.subtract(N), P.subtract(N).subtract(BigInteger.TEN),
            N.subtract(BigInteger.valueOf(50))};
        for (BigInteger start : starts) {
            BigInteger r = start;
            while (!isX(r)) {
                r = r.add(BigInteger.ONE);
            }
            tx = plain(1, 1);
            z = Scripts.signed(tx.parsed(), 0, LOCK, 1);
            BigInteger[] point = keyFor(r, BigInteger.TWO, z);
            Kit.same("r itself", code(tx, 0, Crypto.encode(r, BigInteger.TWO, 1), Crypto.key(point, false)), 0);
        }
    }
}
