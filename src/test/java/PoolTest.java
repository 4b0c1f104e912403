import java.util.ArrayList;
import java.util.Arrays;
import java.util.List;

/** What a transaction that is sent is told: every code, at its edges; and which ones the pool drops. */
final class PoolTest {
    private static Kit.Node node;
    private static List<Kit.Block> blocks;
    private static long mark = 9000;

    public static void main(String[] args) {
        notATransaction();
        byItself();
        waitsOrClashes();
        coins();
        age();
        values();
        scripts();
        order();
        full();
        families();
        likeOnes();
        exact();
        told();
        Kit.end();
    }

    private static void fresh() {
        node = new Kit.Node(true);
        blocks = Kit.grow(node, Kit.first(), 13, 8, 1, 81);
    }

    private static long coin() {
        return Kit.SUBSIDY / 2 / 8;
    }

    private static Kit.Tx spend(int block, int output) {
        return new Kit.Tx().time(mark++).in(blocks.get(block).txs.get(0), output);
    }

    /** The transaction is told the code; if that is not 0 the pool stays as it was. */
    private static void code(String what, Kit.Tx tx, int due) {
        int waiting = node.node.count(3);
        long fees = node.node.fees();
        Kit.same(what, node.code(tx), due);
        Kit.same(what + ": the pool", node.node.count(3), waiting + (due == 0 ? 1 : 0));
        if (due != 0) {
            Kit.same(what + ": fees", node.node.fees(), fees);
        }
    }

    private static void notATransaction() {
        fresh();
        byte[] whole = spend(0, 0).out(1, 81).message();
        for (int size = 1; size < whole.length; size++) {
            Kit.same("cut at " + size, node.code(Arrays.copyOf(whole, size)), 1);
        }
        Kit.same("too long", node.code(Arrays.copyOf(whole, whole.length + 1)), 1);
        Kit.same("it is one", node.code(whole), 0);
        int[][] sizes = {{5, 253, 1, 0}, {5, 254, 1, 0, 0, 0}, {5, 255, 1, 0, 0, 0, 0, 0, 0, 0}, {42, 253, 0, 0},
            {47, 253, 1, 0}, {56, 253, 1, 0}, {5, 253, 253, 0}, {5, 253, 0, 1}};
        for (int[] size : sizes) {
            byte[] long1 = Kit.joined(Arrays.copyOf(whole, size[0]), Kit.bytes(Arrays.copyOfRange(size, 1, size.length)),
                    Arrays.copyOfRange(whole, size[0] + 1, whole.length));
            Kit.same("a long size at " + size[0], node.code(long1), 1);
        }
        for (int many = 8; many <= 9; many++) {
            Kit.Tx in = new Kit.Tx();
            Kit.Tx out = spend(2, many - 8);
            for (int i = 0; i < many; i++) {
                in.in(blocks.get(1).txs.get(0), i);
                out.out(1, 81);
            }
            Kit.same(many + " outputs", node.code(out), many == 8 ? 0 : 1);
            Kit.same(many + " inputs", node.code(in.out(1, 81)), many == 8 ? 0 : 1);
        }
        for (int size = 200; size <= 201; size++) {
            Object[] script = new Object[size];
            Arrays.fill(script, 97);
            Kit.same("an output's script", node.code(spend(3, size - 200).out(1, script)), size == 200 ? 0 : 1);
            Kit.Tx tx = new Kit.Tx().in(blocks.get(4).txs.get(0).name(), 0, Kit.repeated(97, size)).out(1, 81);
            Kit.same("an input's script", node.code(tx), size == 200 ? 10 : 1);
        }
        Kit.Tx plain = spend(5, 0).out(1, 81);
        plain.version = 0xffffffffL;
        plain.time = 0xffffffffL;
        plain.ins.get(0).sequence = 0;
        Kit.same("version, sequence and time mean nothing", node.code(plain), 0);
    }

    private static void byItself() {
        fresh();
        code("no inputs", new Kit.Tx().out(1, 81), 2);
        code("no outputs", spend(0, 0), 2);
        code("neither", new Kit.Tx(), 2);
        code("no inputs, too much", new Kit.Tx().out(-1, 81), 2);
        code("too high", spend(0, 0).out(2100000000000001L, 81), 3);
        code("with a sign", spend(0, 0).out(-1, 81), 3);
        code("with a sign", spend(0, 0).out(Long.MIN_VALUE, 81), 3);
        code("all together", spend(0, 0).out(2100000000000000L, 81).out(1, 81), 3);
        code("all together", spend(0, 0).out(1050000000000000L, 81).out(1050000000000001L, 81), 3);
        code("just not", spend(0, 0).out(1050000000000000L, 81).out(1050000000000000L, 81), 9);
        Kit.Tx eight = spend(0, 0);
        for (int i = 0; i < 8; i++) {
            eight.out(2100000000000000L, 81);
        }
        code("eight times the most", eight, 3);
        code("one key twice", spend(0, 0).in(blocks.get(0).txs.get(0), 0, 81).out(1, 81), 4);
        code("first and third", spend(0, 0).in(blocks.get(0).txs.get(0), 1).in(blocks.get(0).txs.get(0), 0).out(1, 81), 4);
        code("3 before 4", spend(0, 0).in(blocks.get(0).txs.get(0), 0, 81).out(-1, 81), 3);
        code("a root input", Kit.root(5).out(1, 81), 5);
        code("among others", spend(0, 0).in(new byte[32], 4294967295L, new byte[0]).out(1, 81), 5);
        code("twice: 4 before 5", Kit.root(5).in(new byte[32], 4294967295L, new byte[0]).out(1, 81), 4);
        code("no root input", new Kit.Tx().in(new byte[32], 4294967294L, new byte[0]).out(1, 81), 7);
        code("no root input", new Kit.Tx().in(Kit.repeated(1, 32), 4294967295L, new byte[0]).out(1, 81), 7);
        // a first transaction that is in the chain has a root input as well
        code("a first one", blocks.get(0).txs.get(0), 5);
    }

    private static void waitsOrClashes() {
        fresh();
        Kit.Tx one = spend(0, 0).in(blocks.get(0).txs.get(0), 1).out(5, 81);
        code("one", one, 0);
        code("again", one, 12);
        code("its first key", spend(0, 0).out(6, 81), 13);
        code("its second key", spend(0, 2).in(blocks.get(0).txs.get(0), 1).out(6, 81), 13);
        Kit.Tx other = new Kit.Tx().in(blocks.get(0).txs.get(0).name(), 0, Kit.script(81));
        other.in(blocks.get(0).txs.get(0), 1).out(5, 81);
        other.time = one.time;
        code("the same but for a script", other, 13);
        code("13 before 7", spend(0, 0).in(Kit.repeated(1, 32), 0, new byte[0]).out(6, 81), 13);
        Kit.Tx two = new Kit.Tx().in(one, 0).out(4, 81);
        code("two", two, 0);
        code("what two spends", new Kit.Tx().in(one, 0).out(3, 81), 13);
        code("another index", spend(0, 3).out(1, 81), 0);
    }

    private static void coins() {
        fresh();
        code("no such name", new Kit.Tx().in(Kit.repeated(1, 32), 0, new byte[0]).out(1, 81), 7);
        code("no such index", spend(0, 8).out(1, 81), 7);
        for (long index : new long[] {2147483648L, 4294967295L, 2147483647L}) {
            code("index " + index, spend(0, (int) index).out(1, 81), 7);
        }
        code("the second input", spend(0, 0).in(Kit.repeated(1, 32), 0, new byte[0]).out(1, 81), 7);
        Kit.Tx one = spend(0, 0).out(5, 81).out(6, 81);
        code("its maker is not there", new Kit.Tx().in(one, 1).out(6, 81), 7);
        code("one", one, 0);
        code("no such output", new Kit.Tx().in(one, 2).out(1, 81), 7);
        code("nor that", new Kit.Tx().in(one, -1).out(1, 81), 7);
        Kit.Tx two = new Kit.Tx().in(one, 1).in(blocks.get(0).txs.get(0), 1).out(6 + coin(), 81);
        code("of the pool and of the chain", two, 0);
        code("chained on", new Kit.Tx().in(two, 0).in(one, 0).out(1, 81), 0);
        Kit.Block next = Kit.behind(blocks.get(12)).with(Kit.root(mark++).out(1, 81), one).mine();
        Kit.same("one goes to the chain", node.code(next), 0);
        code("what is in the chain has no coins any more", one, 7);
    }

    private static void age() {
        fresh();
        code("7 below the next height", spend(6, 0).out(1, 81), 8);
        code("the tip's", spend(12, 0).out(1, 81), 8);
        code("the second input", spend(0, 0).in(blocks.get(6).txs.get(0), 0).out(1, 81), 8);
        code("8 below", spend(5, 0).out(1, 81), 0);
        Kit.Block next = Kit.behind(blocks.get(12)).with(Kit.root(mark++).out(1, 81)).mine();
        Kit.same("one more", node.code(next), 0);
        code("8 below now", spend(6, 0).out(1, 81), 0);
        code("of the pool any age is right", new Kit.Tx().in(spendOf(6, 1), 0).out(1, 81), 0);
        Kit.Tx made = spend(0, 0).out(3, 81);
        code("made", made, 0);
        next = Kit.behind(next).with(Kit.root(mark++).out(1, 81), made);
        next.bits = Kit.bitsBehind(next.below);
        Kit.same("in the chain", node.code(next.mine()), 0);
        code("what no first transaction made has no age", new Kit.Tx().in(made, 0).out(3, 81), 0);
    }

    private static Kit.Tx spendOf(int block, int output) {
        Kit.Tx tx = spend(block, output).out(5, 81);
        code("made for it", tx, 0);
        return tx;
    }

    private static void values() {
        fresh();
        code("more by one", spend(0, 0).out(coin() + 1, 81), 9);
        code("two by one", spend(0, 0).in(blocks.get(0).txs.get(0), 1).out(coin(), 81).out(coin() + 1, 81), 9);
        Kit.Tx one = spend(0, 0).out(coin(), 81);
        code("as much", one, 0);
        Kit.same("no fee", node.node.fees(), 0L);
        code("of the pool, more by one", new Kit.Tx().in(one, 0).out(coin() + 1, 81), 9);
        code("as much", new Kit.Tx().in(one, 0).out(coin() - 3, 81), 0);
        Kit.same("a fee", node.node.fees(), 3L);
        code("nothing at all", spend(0, 1).out(0, 81), 0);
        Kit.same("a fee", node.node.fees(), 3L + coin());
    }

    private static void scripts() {
        fresh();
        code("a script fails", new Kit.Tx().in(blocks.get(0).txs.get(0), 0, 106).out(1, 81), 10);
        code("the second one", spend(0, 0).in(blocks.get(0).txs.get(0), 1, 108).out(1, 81), 10);
        Kit.Tx one = spend(0, 0).out(7, 82, 135).out(9, 0);
        code("one", one, 0);
        code("what is not asked for", new Kit.Tx().in(one, 0, 81).out(1, 81), 10);
        code("nothing", new Kit.Tx().in(one, 0).out(1, 81), 10);
        code("what nobody may spend", new Kit.Tx().in(one, 1, 81).out(1, 81), 10);
        code("what is asked for", new Kit.Tx().in(one, 0, 82).out(1, 81), 0);
    }

    private static void order() {
        fresh();
        code("7 before 8", spend(12, 0).in(Kit.repeated(1, 32), 0, new byte[0]).out(1, 81), 7);
        code("8 before 9", spend(12, 0).out(9 * coin(), 81), 8);
        code("9 before 10", new Kit.Tx().in(blocks.get(0).txs.get(0), 0, 106).out(9 * coin(), 81), 9);
        code("5 before 12", new Kit.Tx().in(new byte[32], 4294967295L, new byte[0]).out(1, 81), 5);
    }

    /** So many with a fee of 1000 and more, each from a coin of its own. */
    private static List<Kit.Tx> fill(int many) {
        List<Kit.Tx> txs = new ArrayList<>();
        for (int i = 0; i < many; i++) {
            Kit.Tx tx = spend(i / 8, i % 8).out(coin() - 1000 - i, 81);
            code("fill " + i, tx, 0);
            txs.add(tx);
        }
        return txs;
    }

    private static boolean waits(Kit.Tx tx) {
        node.drain();
        node.send(1, Kit.joined(Kit.bytes(4, 1, 1), tx.name()));
        return node.answers(1).get(0).startsWith("01");
    }

    private static void full() {
        fresh();
        List<Kit.Tx> txs = fill(40);
        Kit.same("forty", node.node.count(3), 40);
        long fees = node.node.fees();
        code("with the least fee", spend(5, 0).out(coin() - 999, 81), 11);
        Kit.same("nothing changed", node.node.fees(), fees);
        Kit.Tx better = spend(5, 0).out(coin() - 1001, 81);
        node.drain();
        Kit.same("with more than the least", node.code(better), 0);
        Kit.same("forty", node.node.count(3), 40);
        Kit.same("the least is gone", waits(txs.get(0)), false);
        Kit.same("its fee, too", node.node.fees(), fees + 1);
        Kit.same("it stays", waits(better), true);
        code("it is gone and may come again", txs.get(0), 11);
        // like fees, but longer
        Kit.Tx longer = spend(5, 1).out(coin() - 1002, 81, 97, 97, 97, 97);
        code("less by its size", longer, 11);
        Kit.same("two like ones wait", waits(better) && waits(txs.get(1)), true);
        // the better one and txs 1 have 1001: of like ones the later goes
        Kit.same("more", node.code(spend(5, 2).out(coin() - 5000, 81)), 0);
        Kit.same("the later of like ones is gone", waits(better), false);
        Kit.same("the earlier waits", waits(txs.get(1)), true);
        Kit.same("a like one to those that are left", node.code(spend(5, 3).out(coin() - 1001, 81)), 11);
    }

    private static void families() {
        fresh();
        List<Kit.Tx> txs = fill(36);
        // a family of four: the parent alone has the least fee, its children pay for it
        Kit.Tx parent = spend(4, 4).out(coin() / 2, 81).out(coin() / 2, 81);
        code("no fee", parent, 0);
        Kit.Tx child = new Kit.Tx().in(parent, 0).out(coin() / 2 - 100, 81);
        Kit.Tx rich = new Kit.Tx().in(parent, 1).out(coin() / 2 - 9000, 81);
        code("a child", child, 0);
        code("a rich one", rich, 0);
        Kit.Tx grand = new Kit.Tx().in(child, 0).out(coin() / 2 - 101, 81);
        code("a grandchild", grand, 0);
        // families: parent 9101 by 4, child 101 by 2, grandchild 1: that one goes alone
        Kit.Tx next = spend(5, 0).out(coin() - 8000, 81);
        Kit.same("next", node.code(next), 0);
        Kit.same("the grandchild is gone", waits(grand), false);
        Kit.same("the others wait", waits(child) && waits(parent) && waits(rich), true);
        Kit.same("next", node.code(spend(5, 1).out(coin() - 8000, 81)), 0);
        Kit.same("the child is gone", waits(child), false);
        Kit.same("the rich one holds its parent", waits(parent) && waits(rich), true);
        Kit.same("next", node.code(spend(5, 2).out(coin() - 8000, 81)), 0);
        Kit.same("the least of the others is gone", waits(txs.get(0)), false);
        Kit.same("the parent is not", waits(parent), true);
        Kit.same("forty", node.node.count(3), 40);
        // a whole family goes
        fresh();
        fill(37);
        parent = spend(5, 0).out(coin() - 10, 81);
        child = new Kit.Tx().in(parent, 0).out(coin() - 60, 81);
        grand = new Kit.Tx().in(child, 0).out(coin() - 150, 81);
        code("parent", parent, 0);
        code("child", child, 0);
        code("grandchild", grand, 0);
        long fees = node.node.fees();
        Kit.same("next", node.code(spend(5, 1).out(coin() - 8000, 81)), 0);
        Kit.same("38 are left", node.node.count(3), 38);
        Kit.same("all three are gone", waits(parent) || waits(child) || waits(grand), false);
        Kit.same("fees", node.node.fees(), fees - 150 + 8000);
        // the newest goes with a family that it came into
        fill2(38, parent, child);
        Kit.Tx late = new Kit.Tx().in(child, 0).out(coin() - 61, 81);
        node.drain();
        Kit.same("among them", node.code(late), 11);
        Kit.same("just the newest, or more", node.node.count(3) <= 40, true);
    }

    /** Brings the pool to forty, with a parent and a child of little fee among them. */
    private static void fill2(int from, Kit.Tx parent, Kit.Tx child) {
        code("parent", parent, 0);
        code("child", child, 0);
        Kit.same("forty", node.node.count(3), from + 2);
    }

    private static void likeOnes() {
        // all with the same fee and size: the one that came last goes, which is the newest
        fresh();
        List<Kit.Tx> txs = new ArrayList<>();
        for (int i = 0; i < 40; i++) {
            txs.add(spend(i / 8, i % 8).out(coin() - 500, 81));
            code("like " + i, txs.get(i), 0);
        }
        code("one more like them", spend(5, 0).out(coin() - 500, 81), 11);
        // no fees at all are like ones too, whatever their sizes
        fresh();
        for (int i = 0; i < 40; i++) {
            code("free " + i, spend(i / 8, i % 8).out(i == 7 ? coin() / 2 : coin(), 81)
                    .out(i == 7 ? coin() / 2 : 0, 81), 0);
        }
        Kit.Tx small = spend(5, 0).out(coin(), 81);
        code("small and free", small, 11);
        Kit.same("a child of 7", node.code(new Kit.Tx().in(blocks.get(5).txs.get(0), 1).out(coin() - 1, 81)), 0);
        Kit.same("forty", node.node.count(3), 40);
    }

    private static void exact() {
        // fees by sizes that differ by less than a double can tell
        fresh();
        for (int i = 0; i < 39; i++) {
            code("fill " + i, spend(i / 8, i % 8).out(1, 81), 0);
        }
        // 61 bytes and a script of one: 61 + 1; with two: 63; fees in the same proportion, but for 1
        Kit.Tx one = spend(4, 7).out(coin() - 61000000, 81);
        int size = one.bytes().length;
        code("one", one, 0);
        Kit.Tx two = spend(5, 0).out(0, 81, 97);
        int size2 = two.bytes().length;
        long fee = 61000000L * size2 / size;
        two.outs.get(0).value = coin() - fee;
        // fee * size <= 61000000 * size2, so two has the least, or the same and came last
        code("two has less by a little", two, 11);
        two.outs.get(0).value = coin() - fee - 1;
        Kit.same("two has more by a little", node.code(two), 0);
        Kit.same("one is gone", waits(one), false);
    }

    private static void told() {
        fresh();
        node.drain();
        Kit.Tx one = spend(0, 0).out(5, 81);
        node.send(1, one.message());
        Kit.same("the sender", node.answers(1), List.of("0800" + Model.hex(one.name())));
        for (int peer : new int[] {0, 2, 3}) {
            Kit.same("the others", node.answers(peer), List.of("060101" + Model.hex(one.name())));
        }
        Kit.Tx two = spend(0, 0).out(6, 81);
        node.send(2, two.message());
        Kit.same("the sender", node.answers(2), List.of("080d" + Model.hex(two.name())));
        Kit.same("nobody else", node.answers(0).size() + node.answers(1).size() + node.answers(3).size(), 0);
        // what came in and did not stay is not told
        fresh();
        fill(40);
        node.drain();
        Kit.Tx least = spend(5, 0).out(coin(), 81);
        node.send(3, least.message());
        Kit.same("the sender", node.answers(3), List.of("080b" + Model.hex(least.name())));
        Kit.same("nobody else", node.answers(0).size() + node.answers(1).size() + node.answers(2).size(), 0);
    }
}
