import java.util.List;

/** The methods of the face, each by itself: promises 1 to 10. */
final class FaceTest {
    public static void main(String[] args) {
        newObject();
        feed();
        send();
        fetch();
        block();
        keyAndValue();
        totals();
        counts();
        fees();
        Kit.end();
    }

    private static void newObject() {
        CoinNode node = new CoinNode();
        int[] due = {1, 0, 0, 0, 0, 0};
        for (int what = 0; what < 6; what++) {
            Kit.same("count " + what, node.count(what), due[what]);
        }
        Kit.same("total", node.total(), 0L);
        Kit.same("fees", node.fees(), 0L);
        Kit.same("value", node.value(), -1L);
        byte[] name = Kit.first().name();
        for (int k = 0; k < 4; k++) {
            Kit.same("block", node.block(0, k), Crypto.number(name, 8 * k, 8 * k + 8).longValue());
        }
        for (int peer = -1; peer < 5; peer++) {
            Kit.same("fetch", node.fetch(peer), 0L);
        }
    }

    private static void feed() {
        CoinNode node = new CoinNode();
        for (int i = 0; i < 100; i++) {
            Kit.same("feed " + i, node.feed(i, 0, 0, 0, 0), true);
            Kit.same("bytes", node.count(4), 20 * (i + 1));
        }
        Kit.same("a full tape", node.feed(1, 2, 3, 4, 5), false);
        Kit.same("bytes", node.count(4), 2000);
        Kit.same("all of it", node.send(1, 2000), true);
        Kit.same("room again", node.feed(1, 2, 3, 4, 5), true);
        // the highest byte of each word first: an I HAVE NOT tells the name that was asked for
        node = new CoinNode();
        node.feed(0x04010101, 0x02030405, 0x06070809, 0x0a0b0c0d, 0x0e0f1011);
        node.feed(0x12131415, 0x16171819, 0x1a1b1c1d, 0x1e1f20ff, -1);
        node.send(2, 35);
        Kit.same("7 of 36", node.fetch(2), 0x0700220701010203L);
        Kit.same("7 more", node.fetch(2), 0x070405060708090aL);
        Kit.same("7 more", node.fetch(2), 0x070b0c0d0e0f1011L);
        Kit.same("7 more", node.fetch(2), 0x0712131415161718L);
        Kit.same("7 more", node.fetch(2), 0x07191a1b1c1d1e1fL);
        Kit.same("the last", node.fetch(2), 0x0120000000000000L);
        Kit.same("none", node.fetch(2), 0L);
    }

    private static void send() {
        CoinNode node = new CoinNode();
        Kit.same("nothing there", node.send(0, 1), false);
        node.feed(0x03000000, 0, 0, 0, 0);
        for (int peer : new int[] {-1, 4, Integer.MAX_VALUE, Integer.MIN_VALUE}) {
            Kit.same("no such peer", node.send(peer, 2), false);
        }
        for (int n : new int[] {0, -1, 21, Integer.MAX_VALUE, Integer.MIN_VALUE}) {
            Kit.same("no such number", node.send(0, n), false);
        }
        Kit.same("nothing changed", node.count(4), 20);
        for (int peer = 0; peer < 4; peer++) {
            Kit.same("nothing changed", node.fetch(peer), 0L);
        }
        Kit.same("a message", node.send(3, 2), true);
        Kit.same("the rest of the tape is gone", node.count(4), 0);
        Kit.same("the answer", node.fetch(3), 0x0400020500000000L);
        node.feed(0x03000000, 0, 0, 0, 0);
        Kit.same("all of the tape", node.send(0, 20), true);
        Kit.same("too long", node.fetch(0), 0x0700220801000000L);
        Kit.same("for nobody else", node.fetch(1) | node.fetch(2) | node.fetch(3), 0L);
    }

    private static void fetch() {
        // two answers stand behind one another, and 7 bytes may be of both
        CoinNode node = new CoinNode();
        for (int i = 0; i < 2; i++) {
            node.feed(0x03000000, 0, 0, 0, 0);
            node.send(0, 2);
        }
        Kit.same("both", node.fetch(0), 0x0700020500000205L);
        Kit.same("the last byte", node.fetch(0), 0x0100000000000000L);
        Kit.same("none", node.fetch(0), 0L);
        Kit.same("no such peer", node.fetch(-1) | node.fetch(4) | node.fetch(Integer.MIN_VALUE), 0L);
        // a byte above 127
        node.feed(0x04010180, 0x80ffff00, 0, 0, 0);
        node.feed(0, 0, 0, 0, 0);
        node.send(1, 35);
        Kit.same("without a sign", node.fetch(1), 0x07002207018080ffL);
    }

    private static void block() {
        Kit.Node node = new Kit.Node();
        List<Kit.Block> blocks = Kit.grow(node, Kit.first(), 3, 1, 1, 81);
        for (int height = 1; height <= 3; height++) {
            byte[] name = blocks.get(height - 1).name();
            for (int k = 0; k < 4; k++) {
                long due = Crypto.number(name, 8 * k, 8 * k + 8).longValue();
                Kit.same("block " + height, node.node.block(height, k), due);
            }
            Kit.same("no such part", node.node.block(height, 4) | node.node.block(height, -1), 0L);
        }
        for (int height : new int[] {4, 300, 301, -1, Integer.MAX_VALUE, Integer.MIN_VALUE}) {
            Kit.same("no such height", node.node.block(height, 0), 0L);
        }
        // a block beside the chain of the tip is not told
        Kit.Block beside = Kit.behind(blocks.get(1)).with(Kit.root(77).out(1, 81)).mine();
        Kit.same("beside", node.code(beside), 0);
        Kit.same("still", node.node.block(3, 0), Crypto.number(blocks.get(2).name(), 0, 8).longValue());
    }

    private static void keyAndValue() {
        Kit.Node node = new Kit.Node();
        List<Kit.Block> blocks = Kit.grow(node, Kit.first(), 1, 3, 1, 81);
        byte[] name = blocks.get(0).txs.get(0).name();
        long part = Kit.SUBSIDY / 2 / 3;
        for (int index = 0; index < 3; index++) {
            Kit.same("a coin", node.value(name, index), part);
            Kit.same("the key stays in hand", node.node.value(), part);
        }
        for (int index : new int[] {3, -1, Integer.MAX_VALUE, Integer.MIN_VALUE}) {
            Kit.same("no coin", node.value(name, index), -1L);
        }
        for (int at = 0; at < 32; at += 5) {
            byte[] other = name.clone();
            other[at] ^= 1;
            Kit.same("another name", node.value(other, 0), -1L);
        }
        // coins of value 0 are coins, too; what only the pool has is none
        node = new Kit.Node();
        blocks = Kit.grow(node, Kit.first(), 9, 2, 1, 81);
        Kit.Tx tx = new Kit.Tx().in(blocks.get(0).txs.get(0), 0).out(0, 81).out(7, 81);
        Kit.same("sent", node.code(tx), 0);
        Kit.same("only waits", node.value(tx.name(), 1), -1L);
        Kit.same("not spent yet", node.value(blocks.get(0).txs.get(0).name(), 0), Kit.SUBSIDY / 4);
        Kit.Block next = Kit.behind(blocks.get(8)).with(Kit.root(100).out(1, 81), tx).mine();
        Kit.same("in a block", node.code(next), 0);
        Kit.same("of value 0", node.value(tx.name(), 0), 0L);
        Kit.same("of value 7", node.value(tx.name(), 1), 7L);
        Kit.same("spent", node.value(blocks.get(0).txs.get(0).name(), 0), -1L);
    }

    private static void totals() {
        Kit.Node node = new Kit.Node();
        List<Kit.Block> blocks = Kit.grow(node, Kit.first(), 9, 2, 1, 81);
        Kit.same("total", node.node.total(), 9 * (Kit.SUBSIDY / 2));
        // what a first transaction does not take of subsidy and fees is in no coin
        Kit.Tx tx = new Kit.Tx().in(blocks.get(0).txs.get(0), 0).out(10, 81);
        Kit.Block next = Kit.behind(blocks.get(8)).with(Kit.root(100).out(5, 81), tx).mine();
        Kit.same("a block", node.code(next), 0);
        Kit.same("total", node.node.total(), 9 * (Kit.SUBSIDY / 2) - Kit.SUBSIDY / 4 + 15);
    }

    private static void counts() {
        Kit.Node node = new Kit.Node();
        List<Kit.Block> blocks = Kit.grow(node, Kit.first(), 9, 2, 1, 81);
        Kit.Tx tx = new Kit.Tx().in(blocks.get(0).txs.get(0), 0).out(10, 81);
        node.code(tx);
        Kit.Block bad = Kit.behind(blocks.get(8)).with(Kit.root(100).out(Kit.SUBSIDY + 1, 81)).mine();
        Kit.same("bad", node.code(bad), 35);
        int[] due = {11, 9, 18, 1, 0, 1};
        for (int what = 0; what < 6; what++) {
            Kit.same("count " + what, node.node.count(what), due[what]);
        }
        for (int what : new int[] {-1, 6, 7, Integer.MAX_VALUE, Integer.MIN_VALUE}) {
            Kit.same("count " + what, node.node.count(what), -1);
        }
    }

    private static void fees() {
        Kit.Node node = new Kit.Node();
        List<Kit.Block> blocks = Kit.grow(node, Kit.first(), 10, 2, 1, 81);
        long coin = Kit.SUBSIDY / 4;
        Kit.Tx one = new Kit.Tx().in(blocks.get(0).txs.get(0), 0).out(coin - 7, 81);
        Kit.Tx two = new Kit.Tx().in(one, 0).out(coin - 10, 81);
        Kit.Tx three = new Kit.Tx().in(blocks.get(1).txs.get(0), 0).out(coin, 81);
        Kit.same("one", node.code(one), 0);
        Kit.same("fees", node.node.fees(), 7L);
        Kit.same("two", node.code(two), 0);
        Kit.same("fees", node.node.fees(), 10L);
        Kit.same("three", node.code(three), 0);
        Kit.same("fees", node.node.fees(), 10L);
        Kit.Block next = Kit.behind(blocks.get(9)).with(Kit.root(100).out(1, 81), one).mine();
        Kit.same("one is in a block", node.code(next), 0);
        Kit.same("fees", node.node.fees(), 3L);
        Kit.same("two wait", node.node.count(3), 2);
    }
}
