import java.util.ArrayList;
import java.util.Arrays;
import java.util.List;

/** What a block that is sent is told: every code, at its edges, and which comes first. */
final class BlockTest {
    private static final int LONG = 13;
    private static Kit.Node node;
    private static List<Kit.Block> blocks;
    private static Kit.Block last;
    private static long mark = 1000;

    public static void main(String[] args) {
        notABlock();
        sizesOfBlocks();
        knownOrNot();
        row();
        bits();
        time();
        aboveTarget();
        shape();
        root();
        faultyByItself();
        coinsThatAreThere();
        age();
        values();
        scripts();
        twice();
        order();
        manyBlocks();
        manyCoins();
        Kit.end();
    }

    /** A node with a chain of 13 blocks; the coins of the first six may be spent in the next. */
    private static void fresh() {
        node = new Kit.Node(true);
        blocks = Kit.grow(node, Kit.first(), LONG, 8, 1, 81);
        last = blocks.get(LONG - 1);
    }

    private static long coin() {
        return Kit.SUBSIDY / 2 / 8;
    }

    private static Kit.Block next(Kit.Tx... txs) {
        Kit.Block block = Kit.behind(last);
        block.bits = Kit.bitsBehind(last);
        long value = Math.min(Kit.SUBSIDY / 2, Kit.SUBSIDY >> block.height / 32);
        return block.with(Kit.root(mark++).out(value, 81)).with(txs);
    }

    private static Kit.Tx spend(int block, int output) {
        return new Kit.Tx().time(mark++).in(blocks.get(block).txs.get(0), output);
    }

    private static void code(String what, Kit.Block block, int due) {
        Kit.same(what, node.code(block.mine()), due);
    }

    /** Such a block is told the code, and nothing of it stays but that it is known. */
    private static void bad(String what, Kit.Block block, int due) {
        int known = node.node.count(0);
        int bad = node.node.count(5);
        int coins = node.node.count(2);
        long total = node.node.total();
        code(what, block, due);
        boolean isKnown = due > 30;
        Kit.same(what + ": known", node.node.count(0), known + (isKnown ? 1 : 0));
        Kit.same(what + ": bad", node.node.count(5), bad + (isKnown ? 1 : 0));
        Kit.same(what + ": height", node.node.count(1), last.height);
        Kit.same(what + ": coins", node.node.count(2), coins);
        Kit.same(what + ": total", node.node.total(), total);
        if (isKnown) {
            code(what + " again", block, 20);
        }
    }

    private static void good(String what, Kit.Block block) {
        code(what, block, 0);
        Kit.same(what + ": height", node.node.count(1), block.height);
        last = block;
        blocks.add(block);
    }

    private static void notABlock() {
        fresh();
        byte[] whole = next(spend(0, 0).out(1, 81)).mine().message();
        for (int size = 1; size < whole.length; size += size < 100 ? 1 : 7) {
            Kit.same("cut at " + size, node.code(Arrays.copyOf(whole, size)), 1);
        }
        Kit.same("too long", node.code(Arrays.copyOf(whole, whole.length + 1)), 1);
        node.drain();
        node.send(2, Kit.bytes(2, 1, 2, 3));
        Kit.same("with no name", node.answers(2), List.of("0801" + "00".repeat(32)));
        Kit.same("nobody else is told", node.answers(0).size() + node.answers(1).size() + node.answers(3).size(), 0);
        Kit.same("it is one", node.code(whole), 0);
    }

    private static byte[] replaced(byte[] message, int at, int out, int... in) {
        return Kit.joined(Arrays.copyOf(message, at), Kit.bytes(in), Arrays.copyOfRange(message, at + out, message.length));
    }

    private static void sizesOfBlocks() {
        fresh();
        Kit.Tx tx = spend(0, 0).out(1, 81);
        byte[] whole = next(tx).mine().message();
        int root = whole.length - tx.bytes().length;
        Kit.same("the sizes", whole[81], (byte) 2);
        Kit.same("253", node.code(replaced(whole, 81, 1, 253, 2, 0)), 1);
        Kit.same("254", node.code(replaced(whole, 81, 1, 254, 2, 0, 0, 0)), 1);
        Kit.same("255", node.code(replaced(whole, 81, 1, 255, 2, 0, 0, 0, 0, 0, 0, 0)), 1);
        Kit.same("253 and 253", node.code(replaced(whole, 81, 1, 253, 253, 0)), 1);
        Kit.same("inputs 253", node.code(replaced(whole, root + 4, 1, 253, 1, 0)), 1);
        Kit.same("script 253", node.code(replaced(whole, root + 41, 1, 253, 0, 0)), 1);
        Kit.same("outputs 253", node.code(replaced(whole, root + 46, 1, 253, 1, 0)), 1);
        Kit.same("three", node.code(replaced(whole, 81, 1, 3)), 1);
        Kit.same("one", node.code(replaced(whole, 81, 1, 1)), 1);
        Kit.Block many = next();
        for (int i = 0; i < 11; i++) {
            many.with(spend(i / 8, i % 8).out(1, 81));
        }
        Kit.Block more = next();
        more.txs.addAll(many.txs.subList(1, 12));
        more.with(spend(2, 0).out(1, 81));
        code("13 transactions", more, 1);
        good("12 transactions", many);
        for (int inputs : new int[] {8, 9}) {
            fresh();
            Kit.Tx wide = new Kit.Tx();
            for (int i = 0; i < inputs; i++) {
                wide.in(blocks.get(i / 8).txs.get(0), i % 8);
            }
            code(inputs + " inputs", next(wide.out(1, 81)), inputs == 8 ? 0 : 1);
        }
        for (int outputs : new int[] {8, 9}) {
            fresh();
            Kit.Tx wide = spend(0, 0);
            for (int i = 0; i < outputs; i++) {
                wide.out(1, 81);
            }
            code(outputs + " outputs", next(wide), outputs == 8 ? 0 : 1);
        }
        for (int size : new int[] {200, 201}) {
            fresh();
            code("an output's script of " + size, next(spend(0, 0).out(1, lots(81, size))), size == 200 ? 0 : 1);
            fresh();
            Kit.Tx in = new Kit.Tx().in(blocks.get(0).txs.get(0).name(), 0, Kit.repeated(0, size)).out(1, 81);
            in.ins.get(0).script[0] = 79;
            for (int i = 1; i < size; i += 2) {
                in.ins.get(0).script[i] = i < 80 ? (byte) 117 : 97;
                in.ins.get(0).script[Math.min(size - 1, i + 1)] = 79;
            }
            code("an input's script of " + size, next(in), size == 200 ? 34 : 1);
        }
    }

    private static Object[] lots(int code, int often) {
        Object[] out = new Object[often];
        Arrays.fill(out, code);
        return out;
    }

    private static void knownOrNot() {
        fresh();
        byte[] first = Kit.first().message();
        Kit.same("the first block", node.code(first), 20);
        Kit.same("the tip", node.code(last), 20);
        Kit.same("one below", node.code(blocks.get(3)), 20);
        // a known head is known, whatever stands behind it
        Kit.Block other = next();
        good("one", other);
        other.root = other.head().length == 80 ? Arrays.copyOfRange(other.head(), 36, 68) : null;
        other.txs.clear();
        Kit.same("without its transactions", node.code(other), 20);
        fresh();
        Kit.Block fault = next(spend(0, 0).out(coin() + 1, 81));
        bad("bad", fault, 33);
        Kit.Block behind = Kit.behind(fault);
        behind.bits = Kit.bitsBehind(fault);
        behind.with(Kit.root(5).out(1, 81));
        code("behind a bad one", behind, 22);
        Kit.same("is not known", node.code(behind.message()), 22);
        Kit.same("known", node.node.count(0), 15);
        // 22 comes before all that is wrong with the block itself
        behind.bits = 1;
        behind.txs.clear();
        Kit.same("22 first", node.code(behind.message()), 22);
    }

    private static String rowOf(int... heights) {
        StringBuilder out = new StringBuilder(String.format("03%02x", heights.length));
        for (int height : heights) {
            out.append(Model.hex(height == 0 ? Kit.first().name() : blocks.get(height - 1).name()));
        }
        return out.toString();
    }

    private static void orphan(String due) {
        Kit.Block block = next();
        block.parent = Kit.repeated(7, 32);
        block.bits = 5;
        block.root = new byte[32];
        block.txs.clear();
        node.drain();
        node.send(3, block.message());
        Kit.same("the row at " + last.height, node.answers(3), List.of(due));
        Kit.same("the others", node.answers(0).size() + node.answers(1).size() + node.answers(2).size(), 0);
    }

    private static void row() {
        node = new Kit.Node(true);
        blocks = new ArrayList<>();
        last = Kit.first();
        orphan(rowOf(0));
        int[][] dues = {{1, 0}, {2, 1, 0}, null, null, null, null, null, null, {9, 8, 7, 6, 5, 4, 3, 2, 1, 0},
            {10, 9, 8, 7, 6, 5, 4, 3, 2, 1, 0}, {11, 10, 9, 8, 7, 6, 5, 4, 3, 2, 0},
            {12, 11, 10, 9, 8, 7, 6, 5, 4, 3, 1, 0}, null, null, null, {16, 15, 14, 13, 12, 11, 10, 9, 8, 7, 5, 1, 0},
            null, null, null, null, null, null, null, null, {25, 24, 23, 22, 21, 20, 19, 18, 17, 16, 14, 10, 2, 0}};
        for (int[] due : dues) {
            good("one more", next());
            if (due != null) {
                orphan(rowOf(due));
            }
        }
    }

    /** Sends blocks, each so much later than the one before it, with the bits that the code's rule asks for. */
    private static void timed(int many, long step) {
        for (int i = 0; i < many; i++) {
            Kit.Block block = next();
            block.time = last.time + step;
            good("step " + step, block);
        }
    }

    private static void bits() {
        for (long step : new long[] {1, 171, 172, 300, 685, 686, 2742, 2743, 5000}) {
            node = new Kit.Node(true);
            blocks = new ArrayList<>();
            last = Kit.first();
            timed(7, step);
            Kit.Block block = next();
            long t = Math.max(1200, Math.min(19200, 7 * step));
            // the first target is 7FFFFF and 29 bytes 0 behind it
            long due = step == 1 || step == 171 ? 0x201fffffL : t >= 4800 ? 0x207fffffL : -1;
            if (due > 0) {
                Kit.same("bits of step " + step, block.bits, due);
            }
            block.bits = block.bits == 0x207fffffL ? 0x207ffffeL : 0x207fffffL;
            code("other bits", block, 23);
            block.bits = Kit.bitsBehind(last);
            good("those bits", block);
            timed(6, step);
            block = next();
            Kit.same("as those before", block.bits, last.bits);
            block.bits -= 1;
            code("less", block, 23);
            block.bits += 1;
            good("the same", block);
            timed(1, step);
            timed(8, 5000);
        }
        // bits by hand: at height 8 a quarter, at 16 a sixteenth, then up by 4, and not above the first
        node = new Kit.Node(true);
        blocks = new ArrayList<>();
        last = Kit.first();
        timed(8, 1);
        Kit.same("a quarter", last.bits, 0x201fffffL);
        timed(8, 1);
        Kit.same("a sixteenth", last.bits, 0x2007ffffL);
        timed(8, 1);
        Kit.same("a 64th", last.bits, 0x2001ffffL);
        timed(1, 1);
        timed(6, 600);
        Kit.Block block = next();
        Kit.same("3601 of 4800", block.bits, Model.compact(Model.target(0x2001ffffL)
                .multiply(java.math.BigInteger.valueOf(3601)).divide(java.math.BigInteger.valueOf(4800))));
        Kit.same("by hand", block.bits, 0x2001801aL);
        block.bits = 0x2001801bL;
        code("one more", block, 23);
        block.bits = 0x21000180L;
        code("another form", block, 23);
        // 1442 of 4800: the three highest bytes would be 99CFE9
        node = new Kit.Node(true);
        blocks = new ArrayList<>();
        last = Kit.first();
        timed(24, 1);
        timed(6, 206);
        last = next();
        last.time = blocks.get(23).time + 1442;
        last.mine();
        Kit.same("on", node.code(last), 0);
        block = next();
        Kit.same("two bytes", block.bits, 0x200099cfL);
        block.bits = 0x1f99cfe9L;
        code("three bytes", block, 23);
        block.bits = 0x200099cfL;
        good("by hand", block);
    }

    private static void time() {
        node = new Kit.Node(true);
        blocks = new ArrayList<>();
        last = Kit.first();
        Kit.Block block = next();
        block.time = Kit.FIRST_TIME;
        code("of one block its time", block, 24);
        block.time = 0;
        code("0", block, 24);
        block.time = Kit.FIRST_TIME + 1;
        good("above", block);
        // of two the later one
        block = next();
        block.time = Kit.FIRST_TIME + 1;
        code("of two the second", block, 24);
        block.time = Kit.FIRST_TIME + 500;
        good("above", block);
        // of three the middle one: 0, 1, 500
        block = next();
        block.time = Kit.FIRST_TIME + 1;
        code("of three the middle", block, 24);
        block.time = Kit.FIRST_TIME + 2;
        good("above, below its parent", block);
        // of four the third: 0, 1, 2, 500
        block = next();
        block.time = Kit.FIRST_TIME + 2;
        code("of four the third", block, 24);
        block.time = Kit.FIRST_TIME + 3;
        good("above", block);
        block = next();
        block.time = 0xffffffffL;
        good("without a sign", block);
        for (int i = 0; i < 12; i++) {
            List<Long> times = new ArrayList<>();
            for (Kit.Block one = last; one != null && times.size() < 11; one = one.below) {
                times.add(one.time);
            }
            java.util.Collections.sort(times);
            long median = times.get(times.size() / 2);
            block = next();
            block.time = median;
            code("the median", block, 24);
            block.time = median + 1;
            good("above it", block);
        }
    }

    private static void aboveTarget() {
        fresh();
        Kit.Block block = next().mine(false);
        Kit.same("above", node.code(block), 25);
        block.txs.clear();
        Kit.same("25 before 26", node.code(block), 25);
        good("not above", next());
    }

    private static void shape() {
        fresh();
        Kit.Block none = next();
        none.txs.clear();
        code("no transactions", none, 26);
        for (int size : new int[] {0, 1, 2, 100, 101}) {
            Kit.Block block = next();
            block.txs.get(0).ins.get(0).script = Kit.repeated(255, size);
            if (size == 2 || size == 100) {
                good("a script of " + size, block);
            } else {
                code("a script of " + size, block, 26);
            }
        }
        Kit.Block two = next();
        two.txs.get(0).ins.add(new Kit.In(new byte[32], 4294967295L, new byte[4]));
        code("two root inputs", two, 26);
        Kit.Block plain = next();
        plain.txs.get(0).in(blocks.get(0).txs.get(0), 0);
        code("a root input and another", plain, 26);
        Kit.Block bare = next();
        bare.txs.get(0).ins.clear();
        code("no input", bare, 26);
        Kit.Block index = next();
        index.txs.get(0).ins.get(0).index = 4294967294L;
        code("another index", index, 26);
        Kit.Block name = next();
        name.txs.get(0).ins.get(0).name[31] = 1;
        code("another name", name, 26);
        Kit.Block other = next(spend(0, 0).out(1, 81));
        other.txs.remove(0);
        code("no first transaction", other, 26);
        code("a second one", next(Kit.root(5).out(1, 81)), 26);
        code("a root input among others", next(spend(0, 0).in(new byte[32], 4294967295L, new byte[4]).out(1, 81)), 26);
        Kit.Block rootless = next(Kit.root(5).out(1, 81));
        rootless.root = new byte[32];
        code("26 before 27", rootless, 26);
        good("zeros and another index are a plain key", next(spend(0, 1).out(1, 81)));
        bad("which has no coin", next(new Kit.Tx().in(new byte[32], 0, new byte[0]).out(1, 81)), 31);
    }

    private static void root() {
        for (int many = 0; many < 12; many++) {
            fresh();
            Kit.Block block = next();
            for (int i = 0; i < many; i++) {
                block.with(spend(i / 8, i % 8).out(1, 81));
            }
            byte[] right = Arrays.copyOfRange(block.head(), 36, 68);
            for (int at : new int[] {0, 13, 31}) {
                block.root = right.clone();
                block.root[at] ^= 4;
                code("another root", block, 27);
            }
            block.root = null;
            good("the root of " + (many + 1), block);
        }
        fresh();
        Kit.Tx a = spend(0, 0).out(1, 81);
        Kit.Tx b = spend(0, 1).out(1, 81);
        Kit.Tx c = spend(0, 2).out(1, 81);
        Kit.Tx d = spend(0, 3).out(1, 81);
        Kit.Tx e = spend(0, 4).out(1, 81);
        Kit.Tx f = spend(0, 5).out(1, 81);
        code("two neighbours alike", next(a, b, b), 27);
        code("two neighbours of the next row alike", next(a, b, c, d, e, d, e), 27);
        code("and of the row behind it", next(a, b, c, d, e, f, a, b, c, d, e), 31);
        Kit.Block faulty = next(a, b, b);
        faulty.txs.get(0).outs.clear();
        code("27 before 28", faulty, 27);
        bad("alike, but no neighbours that are put together", next(a, a), 31);
        good("right", next(a, b, c, d, e, f));
    }

    private static void faultyByItself() {
        fresh();
        code("no input", next(new Kit.Tx().out(1, 81)), 28);
        code("no output", next(spend(0, 0)), 28);
        code("a value too high", next(spend(0, 0).out(2100000000000001L, 81)), 28);
        code("a value with a sign", next(spend(0, 0).out(-1, 81)), 28);
        code("the lowest", next(spend(0, 0).out(Long.MIN_VALUE, 81)), 28);
        code("all together", next(spend(0, 0).out(2100000000000000L, 81).out(1, 81)), 28);
        bad("just not too high", next(spend(0, 0).out(2100000000000000L, 81)), 33);
        code("one key twice", next(spend(0, 0).in(blocks.get(0).txs.get(0), 0, 81).out(1, 81)), 28);
        good("two keys of a name", next(spend(0, 0).in(blocks.get(0).txs.get(0), 1).out(1, 81)));
        Kit.Block first = next();
        first.txs.get(0).outs.clear();
        code("the first without outputs", first, 28);
        first = next();
        first.txs.get(0).out(2100000000000001L, 81);
        code("the first too high", first, 28);
        first = next();
        first.txs.get(0).outs.get(0).value = -5;
        code("the first with a sign", first, 28);
        first = next();
        first.txs.get(0).outs.get(0).value = 2100000000000000L;
        bad("the first just not too high", first, 35);
        code("28 before 31", next(new Kit.Tx().in(new byte[32], 1, new byte[0]).out(1, 81), spend(0, 3)), 28);
    }

    private static void coinsThatAreThere() {
        fresh();
        bad("no such name", next(new Kit.Tx().in(Kit.repeated(1, 32), 0, new byte[0]).out(1, 81)), 31);
        bad("no such index", next(spend(0, 8).out(1, 81)), 31);
        bad("an index with a sign", next(spend(0, -1).out(1, 81)), 31);
        bad("the second input", next(spend(0, 0).in(Kit.repeated(1, 32), 0, new byte[0]).out(1, 81)), 31);
        bad("twice in a block", next(spend(0, 0).out(1, 81), spend(0, 0).out(2, 81)), 31);
        Kit.Tx maker = spend(0, 1).out(5, 81).out(6, 81);
        Kit.Tx user = new Kit.Tx().in(maker, 1).out(6, 81);
        bad("before it is made", next(user, maker), 31);
        good("behind it", next(maker, user));
        Kit.same("spent at once", node.value(maker.name(), 1), -1L);
        Kit.same("the other one", node.value(maker.name(), 0), 5L);
        bad("spent before", next(spend(0, 1).out(1, 81)), 31);
        good("left over", next(new Kit.Tx().in(maker, 0).in(user, 0).out(11, 81)));
    }

    private static void age() {
        fresh();
        // the next height is 14: a first transaction of 7 is 7 below, one of 6 is 8 below
        bad("7 below", next(spend(6, 0).out(1, 81)), 32);
        bad("1 below", next(spend(12, 0).out(1, 81)), 32);
        bad("the second input", next(spend(0, 0).in(blocks.get(6).txs.get(0), 0).out(1, 81)), 32);
        Kit.Block own = next();
        own.with(new Kit.Tx().in(own.txs.get(0), 0).out(1, 81));
        bad("of the block itself", own, 32);
        good("8 below", next(spend(5, 0).out(1, 81)));
        good("and so 8 below now", next(spend(6, 0).out(1, 81)));
    }

    private static void values() {
        fresh();
        bad("more than it spends", next(spend(0, 0).out(coin(), 81).out(1, 81)), 33);
        bad("of two", next(spend(0, 0).in(blocks.get(0).txs.get(0), 1).out(2 * coin() + 1, 81)), 33);
        good("as much", next(spend(0, 0).in(blocks.get(0).txs.get(0), 1).out(2 * coin(), 81)));
        Kit.Block first = next(spend(0, 2).out(coin() - 10, 81));
        first.txs.get(0).outs.get(0).value = Kit.SUBSIDY + 11;
        bad("above subsidy and fees", first, 35);
        first = next(spend(0, 2).out(coin() - 10, 81), spend(0, 3).out(coin() - 1, 81));
        first.txs.get(0).outs.get(0).value = Kit.SUBSIDY + 6;
        first.txs.get(0).out(5, 81);
        good("just them", first);
        // the subsidy is less by half from height 32 on
        while (last.height < 31) {
            good("on", next());
        }
        Kit.same("height", last.height, 31);
        Kit.Block half = next();
        half.txs.get(0).outs.get(0).value = Kit.SUBSIDY / 2 + 1;
        bad("above the half", half, 35);
        half.txs.get(0).outs.get(0).value = Kit.SUBSIDY / 2;
        good("the half", half);
    }

    private static Kit.Tx asking(int block, int output, int asked) {
        byte[] script = Kit.joined(Kit.repeated(0, asked * 4), Kit.bytes(81));
        for (int i = 0; i < asked; i++) {
            script[4 * i + 2] = (byte) 172;
            script[4 * i + 3] = 117;
        }
        return new Kit.Tx().time(mark++).in(blocks.get(block).txs.get(0).name(), output, script).out(1, 81);
    }

    private static void scripts() {
        node = new Kit.Node(true);
        blocks = Kit.grow(node, Kit.first(), LONG, 8, 1, 135);
        last = blocks.get(LONG - 1);
        bad("a script fails", next(new Kit.Tx().in(blocks.get(0).txs.get(0), 0, 81, 82).out(1, 81)), 34);
        bad("it has too few", next(new Kit.Tx().in(blocks.get(0).txs.get(0), 0, 81).out(1, 81)), 34);
        bad("the second input's", next(new Kit.Tx().in(blocks.get(0).txs.get(0), 0, 81, 81)
                .in(blocks.get(0).txs.get(0), 1, 81, 80).out(1, 81)), 34);
        good("they hold", next(new Kit.Tx().in(blocks.get(0).txs.get(0), 0, 81, 81)
                .in(blocks.get(0).txs.get(0), 1, 82, 82).out(1, 81)));
        fresh();
        bad("25 signatures at once", next(asking(0, 0, 25)), 34);
        bad("25 in two", next(asking(0, 0, 20), asking(0, 1, 5)), 34);
        bad("in both inputs", next(asking(0, 0, 20).in(blocks.get(0).txs.get(0).name(), 1,
                asking(0, 1, 5).ins.get(0).script)), 34);
        Kit.Block block = next(asking(0, 0, 20), asking(0, 1, 4));
        good("24", block);
        good("24 again", next(asking(0, 2, 24)));
        Kit.Block first = next();
        first.txs.get(0).ins.get(0).script = Kit.bytes(106, 172, 172);
        good("the first one's script is not run", first);
    }

    private static void twice() {
        // the only coin that there is
        node = new Kit.Node(true);
        blocks = Kit.grow(node, Kit.first(), 1, 1, 1, 81);
        last = blocks.get(0);
        Kit.Block copy = next();
        copy.txs.set(0, last.txs.get(0));
        bad("the only coin", copy, 36);
        fresh();
        Kit.Tx same = blocks.get(0).txs.get(0);
        Kit.Block block = next();
        block.txs.set(0, same);
        bad("coins that are there", block, 36);
        block = next(new Kit.Tx().in(Kit.repeated(1, 32), 0, new byte[0]).out(1, 81));
        block.txs.set(0, same);
        bad("36 at the first before 31 at the second", block, 36);
        // when all of them are spent the same name may be made again; in the same block it comes first
        Kit.Tx all = new Kit.Tx();
        for (int i = 0; i < 8; i++) {
            all.in(same, i);
        }
        all.out(8 * coin(), 81);
        block = next(all);
        block.txs.set(0, same);
        bad("before it spends", block, 36);
        good("spent", next(all));
        block = next();
        block.txs.set(0, same);
        good("made again", block);
        Kit.same("a coin again", node.value(same.name(), 3), coin());
        // they are coins of the new height: too young
        bad("young again", next(new Kit.Tx().time(9).in(same, 0).out(1, 81)), 32);
        while (last.height < block.height + 7) {
            good("on", next());
        }
        // and then the very same transaction may spend them again, but it would make its own coin again
        bad("a transaction's coin is there", next(all), 36);
        good("when that is spent", next(new Kit.Tx().in(all, 0).out(1, 81)));
        good("it is in order", next(all));
    }

    /** The first transaction at which a fault is, in it the fault that is named first; what is too much last. */
    private static void order() {
        fresh();
        Kit.Tx none = new Kit.Tx().in(Kit.repeated(1, 32), 0, new byte[0]).out(1, 81);
        Kit.Tx young = spend(12, 0).out(1, 81);
        Kit.Tx costly = spend(0, 0).out(coin() + 1, 81);
        Kit.Tx failing = new Kit.Tx().in(blocks.get(0).txs.get(0), 1, 106).out(1, 81);
        bad("31 then 32", next(none, young), 31);
        bad("32 then 31", next(young, none), 32);
        bad("33 then 31", next(costly, none), 33);
        bad("34 then 31", next(failing, none), 34);
        bad("in one: 31 before 32", next(spend(12, 0).in(Kit.repeated(1, 32), 0, new byte[0]).out(1, 81)), 31);
        bad("in one: 32 before 33", next(spend(12, 0).out(9 * coin(), 81)), 32);
        bad("in one: 33 before 34", next(new Kit.Tx().in(blocks.get(0).txs.get(0), 1, 106).out(9 * coin(), 81)), 33);
        Kit.Block much = next(failing);
        much.txs.get(0).outs.get(0).value = 2 * Kit.SUBSIDY;
        bad("35 last", much, 34);
    }

    private static void manyBlocks() {
        Kit.Node long300 = new Kit.Node(false);
        Kit.Block below = Kit.first();
        for (int i = 0; i < 299; i++) {
            Kit.Block block = Kit.behind(below).with(Kit.root(i).out(1, 81));
            block.bits = Kit.bitsBehind(below);
            block.time = below.time + 700;
            Kit.same("block " + i, long300.code(block.mine()), 0);
            below = block;
        }
        Kit.same("known", long300.node.count(0), 300);
        Kit.same("height", long300.node.count(1), 299);
        Kit.Block block = Kit.behind(below).with(Kit.root(999).out(1, 81));
        block.bits = Kit.bitsBehind(below);
        Kit.same("one more", long300.code(block.mine()), 30);
        block.txs.get(0).outs.clear();
        Kit.same("28 before 30", long300.code(block.mine()), 28);
        Kit.same("known", long300.node.count(0), 300);
    }

    /** A chain that has that many coins: each block of 12 transactions makes up to 8 of one, eleven times. */
    private static void grow(int due) {
        node = new Kit.Node(false);
        blocks = Kit.grow(node, Kit.first(), 9, 8, 1, 81);
        last = blocks.get(8);
        int coins = 72;
        int taken = 0;
        List<Kit.Tx> makers = new ArrayList<>();
        makers.add(blocks.get(0).txs.get(0));
        while (coins < due) {
            Kit.Block block = next();
            coins++;
            for (int j = 0; j < 11 && coins < due; j++) {
                Kit.Tx tx = new Kit.Tx().time(mark++).in(makers.get(taken / 8), taken % 8).out(0, 81);
                taken++;
                for (int k = 1; k < 8 && coins < due; k++) {
                    tx.out(0, 81);
                    coins++;
                }
                block.with(tx);
                makers.add(tx);
            }
            good("many coins", block);
            Kit.same("coins", node.node.count(2), coins);
        }
    }

    private static void manyCoins() {
        grow(1499);
        bad("1501", next(spend(1, 0).out(0, 81).out(0, 81)), 37);
        Kit.Block first = next(spend(1, 0).in(blocks.get(1).txs.get(0), 1).out(0, 81));
        first.txs.get(0).out(0, 81);
        bad("1501 by the first, though it would be less behind it", first, 37);
        good("1500 in between", next(spend(1, 0).in(blocks.get(1).txs.get(0), 1).out(0, 81)));
        good("1500", next());
        Kit.same("coins", node.node.count(2), 1500);
        bad("one more", next(), 37);
        manySpent();
    }

    private static void manySpent() {
        node = new Kit.Node(false);
        blocks = Kit.grow(node, Kit.first(), LONG, 8, 1, 81);
        last = blocks.get(LONG - 1);
        Kit.Tx[] makers = new Kit.Tx[4];
        for (int i = 0; i < 4; i++) {
            makers[i] = blocks.get(i).txs.get(0);
        }
        int spent = 0;
        while (spent < 2976) {
            Kit.Block block = next();
            for (int i = 0; i < 4; i++) {
                makers[i] = all(makers[i], 8);
                block.with(makers[i]);
                spent += 8;
            }
            good("spent " + spent, block);
        }
        bad("3001", next(all(makers[0], 8), all(makers[1], 8), all(makers[2], 8), spend(5, 0).out(0, 81)), 37);
        good("3000", next(all(makers[0], 8), all(makers[1], 8), all(makers[2], 8)));
        bad("one more", next(spend(5, 0).out(0, 81)), 37);
        good("nothing spent", next());
    }

    private static Kit.Tx all(Kit.Tx maker, int outputs) {
        Kit.Tx tx = new Kit.Tx().time(mark++);
        for (int i = 0; i < 8; i++) {
            tx.in(maker, i);
        }
        for (int i = 0; i < outputs; i++) {
            tx.out(0, 81);
        }
        return tx;
    }
}
