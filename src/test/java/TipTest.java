import java.util.ArrayList;
import java.util.List;

/** Which block is the tip, what becomes of branches that are not right, and of the coins and the pool with them. */
final class TipTest {
    private static Kit.Node node;
    private static List<Kit.Block> blocks;
    private static Kit.Block last;
    private static long mark = 5000;

    public static void main(String[] args) {
        firstOfLikeOnes();
        overAndBack();
        badBranch();
        badInTheMiddle();
        lookedAtOnlyAsTip();
        mostWork();
        poolAnew();
        poolAnewWithoutScripts();
        told();
        Kit.end();
    }

    private static void fresh() {
        node = new Kit.Node(true);
        blocks = Kit.grow(node, Kit.first(), 13, 8, 1, 81);
        last = blocks.get(12);
    }

    private static long coin() {
        return Kit.SUBSIDY / 2 / 8;
    }

    private static Kit.Block behind(Kit.Block below, Kit.Tx... txs) {
        Kit.Block block = Kit.behind(below);
        block.bits = Kit.bitsBehind(below);
        return block.with(Kit.root(mark++).out(1000, 81)).with(txs).mine();
    }

    private static Kit.Tx spend(int block, int output) {
        return new Kit.Tx().time(mark++).in(blocks.get(block).txs.get(0), output);
    }

    private static void code(String what, Kit.Block block, int due) {
        Kit.same(what, node.code(block), due);
    }

    private static void tip(String what, Kit.Block due) {
        Kit.same(what + ": height", node.node.count(1), due.height);
        Kit.same(what + ": name", node.node.block(due.height, 0), Crypto.number(due.name(), 0, 8).longValue());
        Kit.same(what + ": nothing above", node.node.block(due.height + 1, 0), 0L);
    }

    private static void counts(String what, int known, int coins, int pool, int bad) {
        Kit.same(what + ": known", node.node.count(0), known);
        Kit.same(what + ": coins", node.node.count(2), coins);
        Kit.same(what + ": pool", node.node.count(3), pool);
        Kit.same(what + ": bad", node.node.count(5), bad);
    }

    private static void firstOfLikeOnes() {
        fresh();
        Kit.Block one = behind(last);
        Kit.Block two = behind(last);
        code("one", one, 0);
        code("two", two, 0);
        tip("the first of two", one);
        Kit.same("its coin", node.value(one.txs.get(0).name(), 0), 1000L);
        Kit.same("no coin of the other", node.value(two.txs.get(0).name(), 0), -1L);
        Kit.Block three = behind(two);
        code("three", three, 0);
        tip("the longer one", three);
        Kit.same("no coin now", node.value(one.txs.get(0).name(), 0), -1L);
        Kit.same("a coin now", node.value(two.txs.get(0).name(), 0), 1000L);
        Kit.Block four = behind(one);
        code("four", four, 0);
        tip("came later", three);
        code("five", behind(four), 0);
        Kit.same("over again", node.value(one.txs.get(0).name(), 0), 1000L);
        counts("all", 19, 107, 0, 0);
    }

    /** Coins that one branch spends are back in the other. */
    private static void overAndBack() {
        fresh();
        Kit.Tx spent = spend(0, 0).out(coin() - 5, 81).out(5, 81);
        Kit.Tx onward = new Kit.Tx().in(spent, 0).out(7, 81);
        Kit.Block one = behind(last, spent);
        Kit.Block two = behind(one, onward);
        code("one", one, 0);
        code("two", two, 0);
        Kit.same("spent", node.value(blocks.get(0).txs.get(0).name(), 0), -1L);
        long total = node.node.total();
        Kit.Tx other = spend(0, 0).out(3, 81);
        Kit.Block a = behind(last, other);
        Kit.Block b = behind(a);
        Kit.Block c = behind(b);
        code("a", a, 0);
        code("b", b, 0);
        tip("not yet", two);
        code("c", c, 0);
        tip("over", c);
        Kit.same("spent here, too", node.value(blocks.get(0).txs.get(0).name(), 0), -1L);
        Kit.same("made here", node.value(other.name(), 0), 3L);
        Kit.same("not here", node.value(spent.name(), 1), -1L);
        Kit.same("nor that", node.value(onward.name(), 0), -1L);
        counts("over", 19, 13 * 8 + 3, 0, 0);
        Kit.Block three = behind(two);
        Kit.Block four = behind(three);
        code("three", three, 0);
        code("four", four, 0);
        tip("back", four);
        Kit.same("made again", node.value(onward.name(), 0), 7L);
        Kit.same("total", node.node.total(), total + 2000);
        // from the first block on: a branch that has nothing of the chain
        node = new Kit.Node(true);
        Kit.Block x = behind(Kit.first());
        Kit.Block y = behind(Kit.first());
        Kit.Block z = behind(y);
        code("x", x, 0);
        code("y", y, 0);
        code("z", z, 0);
        tip("from the first block", z);
        counts("it", 4, 2, 0, 0);
    }

    private static void badBranch() {
        fresh();
        Kit.Tx waits = spend(0, 0).out(coin() - 9, 81);
        Kit.same("it waits", node.code(waits), 0);
        Kit.Block one = behind(last);
        code("one", one, 0);
        long total = node.node.total();
        // the branch's first block is wrong, which shows only when the branch would be the tip
        Kit.Block a = behind(last, spend(0, 1).out(coin() + 1, 81));
        code("a", a, 0);
        counts("a is not looked at", 16, 13 * 8 + 1, 1, 0);
        Kit.Block b = behind(a);
        code("b stands behind a bad one", b, 22);
        tip("still", one);
        counts("both are bad", 17, 13 * 8 + 1, 1, 2);
        Kit.same("total", node.node.total(), total);
        Kit.same("fees", node.node.fees(), 9L);
        code("behind b", behind(b), 22);
        code("behind a", behind(a), 22);
        counts("those are not known", 17, 13 * 8 + 1, 1, 2);
        code("a again", a, 20);
        Kit.Block two = behind(one, waits);
        code("the chain goes on", two, 0);
        tip("the chain goes on", two);
    }

    private static void badInTheMiddle() {
        fresh();
        Kit.Block one = behind(last);
        Kit.Block two = behind(one);
        Kit.Block three = behind(two);
        code("one", one, 0);
        code("two", two, 0);
        code("three", three, 0);
        Kit.Block a = behind(last, spend(0, 0).out(1, 81));
        Kit.Block b = behind(a, spend(0, 0).out(2, 81));
        Kit.Block beside = behind(b);
        Kit.Block c = behind(b);
        Kit.Block d = behind(c);
        code("a", a, 0);
        code("b spends what is spent", b, 0);
        code("beside", beside, 0);
        code("c", c, 0);
        counts("nothing is looked at", 21, 13 * 8 + 3, 0, 0);
        code("d", d, 22);
        tip("as before", three);
        counts("b, beside, c and d are bad, a is not", 22, 13 * 8 + 3, 0, 4);
        code("behind beside", behind(beside), 22);
        // a's branch may still win
        Kit.Block next = a;
        for (int i = 0; i < 3; i++) {
            next = behind(next);
            code("on from a", next, 0);
        }
        tip("a's branch", next);
        // the last block of a branch may be the wrong one
        Kit.Block wrong = behind(three, spend(12, 0).out(1, 81));
        Kit.Block more = behind(wrong);
        code("wrong", wrong, 0);
        code("more", more, 22);
        Kit.Block right = behind(three);
        Kit.Block own = behind(right, spend(12, 0).out(1, 81));
        code("right", right, 0);
        code("its own fault", own, 32);
        tip("still", next);
        counts("bad", 29, 13 * 8 + 4, 0, 7);
    }

    private static void lookedAtOnlyAsTip() {
        fresh();
        Kit.Block one = behind(last);
        code("one", one, 0);
        Kit.Block wrong = behind(last, new Kit.Tx().in(new byte[32], 7, new byte[0]).out(1, 81));
        code("not looked at", wrong, 0);
        counts("not bad", 16, 13 * 8 + 1, 0, 0);
        Kit.Block again = behind(one, new Kit.Tx().in(new byte[32], 7, new byte[0]).out(1, 81));
        code("looked at", again, 31);
        counts("bad", 17, 13 * 8 + 1, 0, 1);
        // each look at a block counts its signatures from 0
        byte[] script = Kit.repeated(0, 97);
        for (int i = 0; i < 24; i++) {
            script[4 * i + 2] = (byte) 172;
            script[4 * i + 3] = 117;
        }
        script[96] = 81;
        Kit.Tx asks = new Kit.Tx().in(blocks.get(0).txs.get(0).name(), 0, script).out(1, 81);
        Kit.Block a = behind(one, asks);
        Kit.Block b = behind(a);
        code("24 are asked for", a, 0);
        Kit.Block x = behind(one, asks);
        Kit.Block y = behind(x, asks.parsed().ins.isEmpty() ? asks : spend(0, 1).out(1, 81));
        code("the same beside", x, 0);
        code("over", y, 0);
        code("b", b, 0);
        code("and back", behind(b), 0);
    }

    /** A branch of fewer blocks with harder bits has more work. */
    private static void mostWork() {
        node = new Kit.Node(true);
        List<Kit.Block> slow = new ArrayList<>();
        Kit.Block below = Kit.first();
        for (int i = 0; i < 11; i++) {
            Kit.Block block = Kit.behind(below).with(Kit.root(mark++).out(1, 81));
            block.bits = Kit.bitsBehind(below);
            block.mine();
            code("slow", block, 0);
            slow.add(block);
            below = block;
        }
        tip("slow", below);
        Kit.Block quick = Kit.first();
        for (int i = 0; i < 8; i++) {
            Kit.Block block = Kit.behind(quick).with(Kit.root(mark++).out(1, 81));
            block.bits = Kit.bitsBehind(quick);
            block.time = quick.time + 1;
            block.mine();
            code("quick", block, 0);
            quick = block;
        }
        // 7 * 2 and 8 against 11 * 2: the same as each slow block has 2
        Kit.same("bits", quick.bits, 0x201fffffL);
        tip("as much work, but later", below);
        Kit.Block nine = Kit.behind(quick).with(Kit.root(mark++).out(1, 81));
        nine.bits = Kit.bitsBehind(quick);
        code("quick", nine.mine(), 0);
        tip("9 blocks against 11", nine);
        for (int i = 0; i < 4; i++) {
            tip("not enough", nine);
            below = behind(below);
            code("slow again", below, 0);
        }
        tip("15 times 2 against 14 and 16: the same", nine);
        below = behind(below);
        code("slow again", below, 0);
        tip("more", below);
    }

    private static List<String> pool() {
        List<String> names = new ArrayList<>();
        for (Model.Tx tx : node.model.pool) {
            names.add(tx.name);
        }
        return names;
    }

    private static boolean waits(Kit.Tx tx) {
        node.drain();
        node.send(1, Kit.joined(Kit.bytes(4, 1, 1), tx.name()));
        return node.answers(1).get(0).startsWith("01");
    }

    private static void poolAnew() {
        fresh();
        Kit.Tx a = spend(0, 0).out(coin() - 1, 81);
        Kit.Tx b = new Kit.Tx().in(a, 0).out(coin() - 3, 81);
        Kit.Tx c = spend(0, 1).out(coin() - 4, 81);
        Kit.Tx d = spend(0, 2).out(coin() - 8, 81);
        for (Kit.Tx tx : new Kit.Tx[] {a, b, c, d}) {
            Kit.same("sent", node.code(tx), 0);
        }
        Kit.same("fees", node.node.fees(), 15L);
        // what is in the new block, and what spends the same, is gone
        Kit.Tx against = spend(0, 1).out(1, 81);
        Kit.Block one = behind(last, a, against);
        code("one", one, 0);
        Kit.same("a is in the chain", waits(a), false);
        Kit.same("b waits", waits(b), true);
        Kit.same("c is gone for good", waits(c), false);
        Kit.same("d waits", waits(d), true);
        Kit.same("fees", node.node.fees(), 10L);
        Kit.Block two = behind(one, b);
        code("two", two, 0);
        Kit.same("d alone", node.node.count(3), 1);
        // over to a branch without them: they come back, from the lowest block on, before those that wait
        Kit.Tx e = new Kit.Tx().time(1).in(b, 0).out(1, 81);
        Kit.same("e spends b's coin", node.code(e), 0);
        Kit.Tx rival = spend(0, 2).out(coin() - 100, 81);
        Kit.Block x = behind(last);
        Kit.Block y = behind(x, rival);
        Kit.Block z = behind(y);
        code("x", x, 0);
        code("y", y, 0);
        Kit.same("nothing yet", node.node.count(3), 2);
        code("z", z, 0);
        tip("over", z);
        for (Kit.Tx tx : new Kit.Tx[] {a, against, b, e}) {
            Kit.same("waits again", waits(tx), true);
        }
        Kit.same("d's coin is spent", waits(d), false);
        Kit.same("four wait", node.node.count(3), 4);
        Kit.same("fees", node.node.fees(), 1 + (coin() - 1) + 2 + (coin() - 3 - 1));
        Kit.same("c comes too late", node.code(c), 13);
        // a first transaction that was left does not wait, and what spends its coin is gone
        Kit.same("no first one", waits(one.txs.get(0)), false);
        // and back again
        Kit.Block three = behind(two);
        Kit.Block four = behind(three);
        code("three", three, 0);
        code("four", four, 0);
        tip("back", four);
        Kit.same("rival's coin is free, but it was left", waits(rival), true);
        Kit.same("e waits", waits(e), true);
        Kit.same("two wait", node.node.count(3), 2);
    }

    private static void poolAnewWithoutScripts() {
        // a coin that is too young in the new chain keeps a transaction out; scripts are not looked at again
        fresh();
        Kit.Tx root = blocks.get(5).txs.get(0);
        Kit.Tx young = new Kit.Tx().in(root, 0).out(1, 81);
        Kit.same("old enough for 14", node.code(young), 0);
        Kit.Tx many = spend(0, 3).out(1, 81);
        many.ins.get(0).script = new byte[9 * 4 + 1];
        for (int i = 0; i < 9; i++) {
            many.ins.get(0).script[4 * i + 2] = (byte) 172;
            many.ins.get(0).script[4 * i + 3] = 117;
        }
        many.ins.get(0).script[36] = 81;
        Kit.same("9 signatures are too many for one that is sent", node.code(many), 10);
        Kit.Block one = behind(last, many);
        code("in a block they are not", one, 0);
        Kit.Block x = behind(last);
        Kit.Block y = behind(x);
        code("x", x, 0);
        code("y", y, 0);
        tip("over", y);
        Kit.same("it waits, though it may not be sent", waits(many), true);
        Kit.same("the other still waits", waits(young), true);
        Kit.same("sent again", node.code(many), 12);
    }

    private static void told() {
        fresh();
        node.drain();
        Kit.Block one = behind(last);
        node.send(2, one.message());
        String have = "060102" + Model.hex(one.name());
        Kit.same("the sender", node.answers(2), List.of("0800" + Model.hex(one.name())));
        for (int peer : new int[] {0, 1, 3}) {
            Kit.same("told", node.answers(peer), List.of(have));
        }
        Kit.Block beside = behind(last);
        node.send(0, beside.message());
        Kit.same("the sender", node.answers(0), List.of("0800" + Model.hex(beside.name())));
        for (int peer : new int[] {1, 2, 3}) {
            Kit.same("no new tip, nothing told", node.answers(peer), List.of());
        }
        Kit.Block over = behind(beside, spend(0, 0).out(1, 81));
        node.send(0, over.message());
        Kit.same("the sender", node.answers(0), List.of("0800" + Model.hex(over.name())));
        for (int peer : new int[] {1, 2, 3}) {
            Kit.same("told the new tip alone", node.answers(peer), List.of("060102" + Model.hex(over.name())));
        }
        // with the pool made anew nothing is told of what comes in
        Kit.Block two = behind(one);
        Kit.Block three = behind(two);
        node.send(1, two.message());
        node.drain();
        node.send(1, three.message());
        Kit.same("it came back", node.node.count(3), 1);
        Kit.same("the sender", node.answers(1), List.of("0800" + Model.hex(three.name())));
        for (int peer : new int[] {0, 2, 3}) {
            Kit.same("the tip alone", node.answers(peer), List.of("060102" + Model.hex(three.name())));
        }
        node.send(1, over.message());
        Kit.same("known", node.answers(1), List.of("0814" + Model.hex(over.name())));
        Kit.same("nothing told", node.answers(0).size() + node.answers(2).size() + node.answers(3).size(), 0);
    }
}
