import java.math.BigInteger;
import java.util.Arrays;
import java.util.Random;

/** Holds the digests and the signatures of the program, through scripts, against those of the Java library. */
final class CryptoTest {
    public static void main(String[] args) {
        Random random = new Random(5);
        digests(random);
        Kit.end();
    }

    /** Each digest of elements of all sizes: the coin's script compares it with what is due. */
    private static void digests(Random random) {
        Kit.Node node = null;
        java.util.List<Kit.Block> blocks = null;
        int used = 0;
        for (int size = 0; size <= 120; size++) {
            byte[] element = new byte[size];
            random.nextBytes(element);
            for (int code : new int[] {166, 168, 169, 170}) {
                byte[] due = code == 166 ? Crypto.ripe(element) : code == 168 ? Crypto.digest(element)
                        : code == 169 ? Crypto.ripe(Crypto.digest(element)) : Crypto.name(element);
                if (node == null || used == 40) {
                    node = new Kit.Node(false);
                    blocks = Kit.grow(node, Kit.first(), 13, 8, 1, 97);
                    used = 0;
                }
                Kit.Tx tx = new Kit.Tx().in(blocks.get(used / 8).txs.get(0), used % 8, element, code, due, 135);
                tx.out(1, 81);
                Kit.same("digest " + code + " of " + size, node.code(tx), 0);
                used++;
            }
        }
    }
}
