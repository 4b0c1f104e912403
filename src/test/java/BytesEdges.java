import java.util.ArrayList;
import java.util.Arrays;
import java.util.List;

/** The edges of BYTES: sizes, transactions, blocks, roots, the first block. */
final class BytesEdges {
    private static final String SIZE = "A SIZE is one byte below 253, or 253 and two bytes low first, or 254 and four, "
            + "or 255 and eight; as short as it can be.";
    private static final String DIGEST = "The DIGEST of bytes is their SHA-256 (FIPS 180-4); their NAME the digest of the "
            + "digest (32 bytes).";
    private static final String TRANSACTION = "A TRANSACTION: VERSION (4 bytes low first); how many INPUTS (a size), of "
            + "each: a name (32), an INDEX (4 low first), how many bytes its script has (a size), these, a SEQUENCE (4 low "
            + "first); how many OUTPUTS (a size), of each: a VALUE (8 low first), how many bytes its script has (a size), "
            + "these; a TIME (4 low first).";
    private static final String MOST = "At most 8 inputs, 8 outputs, scripts of 200 bytes (else it is none).";
    private static final String BLOCK = "A BLOCK: a HEAD of 80 bytes: version (4), the parent's name (32), a ROOT (32), a "
            + "time, BITS, a NONCE (4 low first each); how many transactions (a size, 12 at most), and these.";
    private static final String ROOT = "The row of the names of its transactions is put together: as long as there are "
            + "several, each two neighbours from the first on (the last one with itself, if it is alone) become the name of "
            + "their 64 bytes;";
    private static final String DOUBTFUL = "DOUBTFUL if two neighbours were alike anywhere.";
    private static final int NONE = 1;
    /** What a transaction is told that is one, but whose key has no coin. */
    private static final int NO_COIN = 7;

    private BytesEdges() {
    }

    static void all() {
        Edge.of(7, "A row of bytes of which the first one counts 1, the next one 256, .. is LOW FIRST.",
                "each byte of a value counts", BytesEdges::lowFirst);
        Edge.of(3, SIZE, "253, 254, 255 before what is below 253", BytesEdges::longSizes);
        Edge.of(3, SIZE, "253, 254, 255 with all their bytes, or fewer", BytesEdges::greatSizes);
        Edge.of(3, DIGEST, "names of bytes that just fill their parts of 64, or just not", BytesEdges::names);
        Edge.of(3, DIGEST, "digests of 0 to 120 bytes", BytesEdges::digests);
        Edge.of(3, TRANSACTION, "the smallest one, a byte less, a byte more", BytesEdges::smallest);
        Edge.of(3, TRANSACTION, "cut anywhere", BytesEdges::cut);
        Edge.of(3, TRANSACTION, "scripts of no bytes", BytesEdges::emptyScripts);
        Edge.of(3, MOST, "8 inputs and 9", BytesEdges::inputs);
        Edge.of(3, MOST, "8 outputs and 9", BytesEdges::outputs);
        Edge.of(3, MOST, "an input's script of 200 bytes and of 201", BytesEdges::inputScripts);
        Edge.of(3, MOST, "an output's script of 200 bytes and of 201", BytesEdges::outputScripts);
        Edge.of(3, MOST, "the first transaction of a block, and the last", BytesEdges::mostInBlocks);
        Edge.of(3, "All these numbers are without a sign.", "the highest bit of an index, a value, a size, a time",
                BytesEdges::withoutSign);
        Edge.of(3, "Version, sequences and time mean nothing here.", "0 and 2 ^ 32 - 1", BytesEdges::meanNothing);
        Edge.of(3, BLOCK, "0 transactions, 12 and 13", BytesEdges::manyTransactions);
        Edge.of(3, BLOCK, "cut anywhere, and too long", BytesEdges::cutBlocks);
        Edge.of(3, BLOCK, "version and nonce 0 and 2 ^ 32 - 1", BytesEdges::heads);
        Edge.of(3, "A block's name is that of its head.", "another row of transactions behind it", BytesEdges::nameOfHead);
        Edge.of(3, ROOT, "1 transaction: its name alone", BytesEdges::rootOfOne);
        Edge.of(3, ROOT, "2 to 12 transactions, whoever is alone", BytesEdges::roots);
        Edge.of(3, ROOT, "an alone one that is taken over as it is", BytesEdges::otherRoots);
        Edge.of(3, DOUBTFUL, "the transactions themselves", BytesEdges::alike);
        Edge.of(3, DOUBTFUL, "their names put together", BytesEdges::alikeAbove);
        Edge.of(3, DOUBTFUL, "the last one with itself, and those that are not put together", BytesEdges::notAlike);
        Edge.of(1, "The FIRST BLOCK is there from the beginning: version 1, time 1000000, bits 207FFFFF (to the base 16), "
                + "all else of its head 0; it has no transactions.", "its name", BytesEdges::firstBlock);
    }

    private static void lowFirst() {
        Run run = new Run();
        Kit.Block block = run.next();
        block.txs.get(0).outs.clear();
        block.txs.get(0).out(0x0102030405L).out(0xff).out(0x100).out(0xff00).out(0x800000);
        run.put(block.mine());
        byte[] message = block.message();
        Edge.due("the first byte", message[82 + 52], (byte) 5);
        Edge.due("value", run.value(block.txs.get(0), 0), 4328719365L);
        Edge.due("value", run.value(block.txs.get(0), 1), 255L);
        Edge.due("value", run.value(block.txs.get(0), 2), 256L);
        Edge.due("value", run.value(block.txs.get(0), 3), 65280L);
        Edge.due("value", run.value(block.txs.get(0), 4), 8388608L);
        Kit.Block second = Run.behind(block);
        second.txs.get(0).outs.clear();
        second.txs.get(0).out(0x80000000L).out(0xff000000L - 0x80000000L);
        run.put(second.mine());
        Edge.due("the highest bit of four bytes", run.value(second.txs.get(0), 0), 2147483648L);
        // the three highest bytes: 2100000000000000 is 00 07 75 F0 5A 07 40 00
        run = new Run();
        for (int at : new int[] {5, 6, 7}) {
            Edge.due("byte " + at, run.code(Run.spendNothing().out(1L << 8 * at)), at < 7 ? NO_COIN : 3);
        }
        Edge.due("byte 6 is 7", run.code(Run.spendNothing().out(7L << 48)), NO_COIN);
        Edge.due("byte 6 is 8", run.code(Run.spendNothing().out(8L << 48)), 3);
    }

    private static byte[] replaced(byte[] message, int at, int... in) {
        return Kit.joined(Arrays.copyOf(message, at), Kit.bytes(in), Arrays.copyOfRange(message, at + 1, message.length));
    }

    /** Where in the message of a transaction with one input and one output its sizes stand. */
    private static int[] places(int inputScript) {
        return new int[] {5, 42, 43 + inputScript + 4, 43 + inputScript + 4 + 1 + 8};
    }

    private static void longSizes() {
        Kit.Tx tx = Run.spendNothing();
        tx.ins.get(0).script = Kit.repeated(1, 5);
        tx.outs.get(0).script = Kit.repeated(1, 6);
        byte[] message = tx.message();
        int[] sizes = {1, 5, 1, 6};
        Run run = new Run();
        Edge.due("as short as can be", run.code(message), NO_COIN);
        for (int i = 0; i < 4; i++) {
            int at = places(5)[i];
            int size = sizes[i];
            Edge.due("the size", (int) message[at], size);
            Edge.due("253", run.code(replaced(message, at, 253, size, 0)), NONE);
            Edge.due("254", run.code(replaced(message, at, 254, size, 0, 0, 0)), NONE);
            Edge.due("255", run.code(replaced(message, at, 255, size, 0, 0, 0, 0, 0, 0, 0)), NONE);
        }
        run = new Run();
        byte[] block = run.next().message();
        Edge.due("253", run.code(replaced(block, 81, 253, 1, 0)), NONE);
        Edge.due("254", run.code(replaced(block, 81, 254, 1, 0, 0, 0)), NONE);
        Edge.due("255", run.code(replaced(block, 81, 255, 1, 0, 0, 0, 0, 0, 0, 0)), NONE);
        Edge.due("as short as can be", run.code(block), 0);
        // the greatest size that one byte may tell, and one that needs three
        Kit.Tx wide = Run.spendNothing();
        wide.ins.get(0).script = Kit.repeated(1, 200);
        message = wide.message();
        Edge.due("200 in three bytes", run.code(replaced(message, 42, 253, 200, 0)), NONE);
        Edge.due("200 in one", run.code(message), NO_COIN);
    }

    private static void greatSizes() {
        byte[] message = Run.spendNothing().message();
        Run run = new Run();
        for (int at : places(0)) {
            for (int[] size : new int[][] {{252}, {253}, {253, 0}, {253, 253, 0}, {253, 255, 255}, {254}, {254, 0, 0, 1, 0},
                {255, 255, 255, 255, 255}}) {
                byte[] cut = Kit.joined(Arrays.copyOf(message, at), Kit.bytes(size));
                Edge.due(at + " " + Arrays.toString(size), run.code(cut), NONE);
            }
        }
        // as a size of one byte 253 would be too much, even if so many bytes are there; so is a size of three bytes
        for (int at : new int[] {42, 56}) {
            for (int[] size : new int[][] {{253}, {253, 253, 0}}) {
                byte[] whole = Kit.joined(Arrays.copyOf(message, at), Kit.bytes(size), Kit.repeated(1, 253),
                        Arrays.copyOfRange(message, at + 1, message.length));
                Edge.due(at + " and 253 bytes", new Run().code(whole), NONE);
            }
        }
        run = new Run();
        byte[] block = run.next().message();
        for (int[] size : new int[][] {{252}, {253}, {253, 253, 0}, {254, 0, 0, 1, 0}, {255}, {255, 0, 0, 0, 0, 1, 0, 0, 0},
            {255, 255, 255, 255, 255, 255, 255, 255, 255}}) {
            byte[] cut = Kit.joined(Arrays.copyOf(block, 81), Kit.bytes(size));
            Edge.due(Arrays.toString(size), run.code(cut), NONE);
        }
    }

    private static void names() {
        Run run = new Run();
        for (int size : new int[] {64, 65, 117, 118, 119, 120, 121, 127, 128, 129, 183, 184}) {
            Kit.Tx tx = Run.spendNothing();
            tx.ins.get(0).script = Kit.repeated(7, size - tx.bytes().length);
            Edge.due("size", tx.bytes().length, size);
            Edge.due("the name of " + size, run.ask(0, tx.message()), List.of("0807" + Model.hex(tx.name())));
        }
        // that of no bytes
        Coin.leaves(Coin.s(0, 170), Model.unhex("5df6e0e2761359d30a8275058e299fcc0381534545f55cf43e41983f5d4c9456"));
    }

    private static void digests() {
        // FIPS 180-4 gives "abc", and its 448 bits
        Coin.leaves(Coin.s(Coin.b(97, 98, 99), 168),
                Model.unhex("ba7816bf8f01cfea414140de5dae2223b00361a396177a9cb410ff61f20015ad"));
        Coin.leaves(Coin.s("abcdbcdecdefdefgefghfghighijhijkijkljklmklmnlmnomnopnopq".getBytes(), 168),
                Model.unhex("248d6a61d20638b8e5c026930c3e6039a33ce45964ff2167f6ecedd419db06c1"));
        Coin.leaves(Coin.s(0, 168), Model.unhex("e3b0c44298fc1c149afbf4c8996fb92427ae41e4649b934ca495991b7852b855"));
        for (int size : new int[] {1, 54, 55, 56, 57, 63, 64, 65, 118, 119, 120}) {
            byte[] element = Kit.repeated(0x5a, size);
            Coin.leaves(Coin.s(element, 168), Crypto.digest(element));
            Coin.leaves(Coin.s(element, 170), Crypto.name(element));
        }
    }

    private static void smallest() {
        Run run = new Run();
        byte[] least = new Kit.Tx().message();
        Edge.due("4 bytes, 0, 0 and 4 bytes", least.length, 11);
        Edge.due("it is one, though without inputs", run.code(least), 2);
        Edge.due("a byte less", run.code(Arrays.copyOf(least, 10)), NONE);
        Edge.due("a byte more", run.code(Arrays.copyOf(least, 12)), NONE);
        Edge.due("nothing at all", run.code(Kit.bytes(1)), NONE);
        byte[] plain = Run.spendNothing().message();
        Edge.due("one of each", plain.length, 61);
        Edge.due("it is one", run.code(plain), NO_COIN);
        Edge.due("a byte less", run.code(Arrays.copyOf(plain, 60)), NONE);
        Edge.due("a byte more", run.code(Arrays.copyOf(plain, 62)), NONE);
    }

    private static void cut() {
        Kit.Tx tx = Run.spendNothing();
        tx.ins.get(0).script = Kit.repeated(1, 3);
        tx.outs.get(0).script = Kit.repeated(1, 3);
        byte[] message = tx.message();
        Run run = new Run();
        for (int size = 1; size < message.length; size++) {
            if (run.calls > 490) {
                run = new Run();
            }
            Edge.due("cut at " + size, run.code(Arrays.copyOf(message, size)), NONE);
        }
        Edge.due("whole", run.code(message), NO_COIN);
    }

    private static void emptyScripts() {
        Run run = new Run();
        Kit.Tx tx = Run.spendNothing();
        Edge.due("both empty", run.code(tx), NO_COIN);
        tx.ins.get(0).script = Kit.bytes(0);
        tx.outs.get(0).script = Kit.bytes(0);
        Edge.due("a byte each", run.code(tx), NO_COIN);
        run = Run.ripe(1);
        tx = new Kit.Tx().in(run.root(1), 0, 81).out(1);
        Edge.due("an empty lock, and it makes one", run.code(tx), 0);
    }

    private static Kit.Tx inputs(int many) {
        Kit.Tx tx = new Kit.Tx().out(1);
        for (int i = 0; i < many; i++) {
            tx.in(Kit.repeated(i + 1, 32), 0, new byte[0]);
        }
        return tx;
    }

    private static void inputs() {
        Run run = new Run();
        Edge.due("0", run.code(inputs(0)), 2);
        Edge.due("1", run.code(inputs(1)), NO_COIN);
        Edge.due("8", run.code(inputs(8)), NO_COIN);
        Edge.due("9", run.code(inputs(9)), NONE);
        run = Run.ripe(8);
        Kit.Tx all = new Kit.Tx().out(8 * Run.RICH);
        for (int i = 0; i < 8; i++) {
            all.in(run.root(1), i, 81);
        }
        Edge.due("8 with coins", run.code(all), 0);
    }

    private static Kit.Tx outputs(int many) {
        Kit.Tx tx = Run.spendNothing();
        tx.outs.clear();
        for (int i = 0; i < many; i++) {
            tx.out(i);
        }
        return tx;
    }

    private static void outputs() {
        Run run = new Run();
        Edge.due("0", run.code(outputs(0)), 2);
        Edge.due("1", run.code(outputs(1)), NO_COIN);
        Edge.due("8", run.code(outputs(8)), NO_COIN);
        Edge.due("9", run.code(outputs(9)), NONE);
        Kit.Block block = run.next();
        block.txs.set(0, Kit.root(Run.mark()));
        for (int i = 0; i < 8; i++) {
            block.txs.get(0).out(i);
        }
        run.put(block.mine());
        Edge.due("8 coins", run.count(2), 8);
        Edge.due("the last of them", run.value(block.txs.get(0), 7), 7L);
    }

    private static void inputScripts() {
        Run run = new Run();
        for (int size : new int[] {0, 127, 128, 199, 200, 201, 252}) {
            Kit.Tx tx = Run.spendNothing();
            tx.ins.get(0).script = Kit.repeated(97, size);
            Edge.due("of " + size, run.code(tx), size <= 200 ? NO_COIN : NONE);
        }
        Kit.Tx second = inputs(2);
        second.ins.get(1).script = Kit.repeated(97, 200);
        Edge.due("the second one's of 200", run.code(second), NO_COIN);
        second.ins.get(1).script = Kit.repeated(97, 201);
        Edge.due("the second one's of 201", run.code(second), NONE);
    }

    private static void outputScripts() {
        Run run = new Run();
        for (int size : new int[] {0, 127, 128, 199, 200, 201, 252}) {
            Kit.Tx tx = Run.spendNothing();
            tx.outs.get(0).script = Kit.repeated(97, size);
            Edge.due("of " + size, run.code(tx), size <= 200 ? NO_COIN : NONE);
        }
        Kit.Tx second = outputs(2);
        second.outs.get(1).script = Kit.repeated(97, 200);
        Edge.due("the second one's of 200", run.code(second), NO_COIN);
        second.outs.get(1).script = Kit.repeated(97, 201);
        Edge.due("the second one's of 201", run.code(second), NONE);
    }

    private static void mostInBlocks() {
        Run run = new Run();
        for (int many = 8; many <= 9; many++) {
            Kit.Block block = run.next();
            block.txs.set(0, Kit.root(Run.mark()));
            for (int i = 0; i < many; i++) {
                block.txs.get(0).out(0);
            }
            Edge.due("the first one's outputs", run.code(block.mine()), many == 8 ? 0 : NONE);
            run = new Run();
            Edge.due("the last one's inputs", run.code(run.next(inputs(many))), many == 8 ? 31 : NONE);
            Edge.due("the last one's outputs", run.code(run.next(outputs(many))), many == 8 ? 31 : NONE);
        }
        run = new Run();
        for (int size = 200; size <= 201; size++) {
            Kit.Tx tx = Run.spendNothing();
            tx.ins.get(0).script = Kit.repeated(97, size);
            Edge.due("its input's script", run.code(run.next(tx)), size == 200 ? 31 : NONE);
            tx = Run.spendNothing();
            tx.outs.get(0).script = Kit.repeated(97, size);
            Edge.due("its output's script", run.code(run.next(tx)), size == 200 ? 31 : NONE);
        }
    }

    private static void withoutSign() {
        Run run = new Run();
        Edge.due("a value of 2 ^ 63", run.code(Run.spendNothing().out(Long.MIN_VALUE)), 3);
        Edge.due("a value of 2 ^ 64 - 1", run.code(Run.spendNothing().out(-1)), 3);
        Kit.Tx index = Run.spendNothing();
        index.ins.get(0).index = 4294967295L;
        Edge.due("an index of 2 ^ 32 - 1", run.code(index), NO_COIN);
        Kit.Tx script = Run.spendNothing();
        script.ins.get(0).script = Kit.repeated(97, 128);
        Edge.due("a size of 128", run.code(script), NO_COIN);
        Kit.Block block = run.next();
        block.time = 4294967295L;
        Edge.due("a time of 2 ^ 32 - 1", run.code(block.mine()), 0);
        Kit.Block high = Run.behind(Kit.first());
        high.time = 2147483648L;
        Edge.due("a time of 2 ^ 31", run.code(high.mine()), 0);
        Kit.Block onHigh = Run.behind(high);
        onHigh.time = 2147483647L;
        Edge.due("below it", run.code(onHigh.mine()), 24);
    }

    private static void meanNothing() {
        Run run = Run.ripe(8);
        int output = 0;
        for (long one : new long[] {0, 2147483648L, 4294967295L}) {
            Kit.Tx tx = run.spend(1, output++).out(1).time(one);
            tx.version = one;
            tx.ins.get(0).sequence = one;
            Edge.due("all are " + one, run.code(tx), 0);
        }
        Kit.Tx inBlock = run.spend(1, output).out(1).time(4294967295L);
        inBlock.ins.get(0).sequence = 5;
        inBlock.version = 4294967295L;
        Edge.due("in a block", run.code(run.next(inBlock)), 0);
    }

    private static Kit.Block sized(int many) {
        Kit.Block block = Run.behind(Kit.first());
        for (int i = 1; i < many; i++) {
            block.with(Run.spendNothing());
        }
        return block;
    }

    private static void manyTransactions() {
        Run run = new Run();
        Kit.Block none = sized(1);
        none.txs.clear();
        Edge.due("0 are a block", run.code(none.mine()), 26);
        Edge.due("1", run.code(sized(1).mine()), 0);
        run = new Run();
        Edge.due("12", run.code(sized(12).mine()), 31);
        Edge.due("13", run.code(sized(13).mine()), NONE);
    }

    private static void cutBlocks() {
        Kit.Block block = sized(2).mine();
        byte[] message = block.message();
        Run run = new Run();
        for (int size : new int[] {1, 2, 5, 37, 69, 73, 77, 80, 81, 82, 83, 86, 123, 124, 128, 133, 134, 142, 143, 147, 148,
            message.length - 1}) {
            if (run.calls > 480) {
                run = new Run();
            }
            Edge.due("cut at " + size, run.code(Arrays.copyOf(message, size)), NONE);
        }
        run = new Run();
        Edge.due("a byte more", run.code(Arrays.copyOf(message, message.length + 1)), NONE);
        Edge.due("one transaction less", run.code(replaced(message, 81, 1)), NONE);
        Edge.due("one transaction more", run.code(replaced(message, 81, 3)), NONE);
        Edge.due("whole", run.code(message), 31);
    }

    private static void heads() {
        Run run = new Run();
        Kit.Block below = Kit.first();
        for (long one : new long[] {0, 2147483648L, 4294967295L}) {
            Kit.Block block = Run.behind(below);
            block.version = one;
            Edge.due("version " + one, run.code(block.mine()), 0);
            below = block;
        }
        Kit.Block block = Run.behind(below);
        block.nonce = 4294967295L;
        while (!block.isLow()) {
            block.txs.get(0).time++;
        }
        Edge.due("the last nonce", run.code(block), 0);
        below = block;
        block = Run.behind(below);
        block.nonce = 0;
        while (!block.isLow()) {
            block.txs.get(0).time++;
        }
        Edge.due("the first nonce", run.code(block), 0);
    }

    private static void nameOfHead() {
        Run run = new Run();
        Kit.Block block = run.add(run.next());
        run.answers(0);
        Edge.due("the name", run.tipName(), Model.hex(Crypto.name(Arrays.copyOfRange(block.message(), 1, 81))));
        Kit.Block other = Run.behind(Kit.first());
        byte[] same = Kit.joined(Arrays.copyOf(block.message(), 81), Arrays.copyOfRange(other.message(), 81,
                other.message().length));
        Edge.due("other transactions", run.code(same), 20);
        Edge.due("none", run.code(Kit.joined(Arrays.copyOf(block.message(), 81), Kit.bytes(0))), 20);
    }

    private static void rootOfOne() {
        Run run = new Run();
        Kit.Block block = run.next();
        block.root = Crypto.name(Kit.joined(block.txs.get(0).name(), block.txs.get(0).name()));
        Edge.due("with itself", run.code(block.mine()), 27);
        block.root = new byte[32];
        Edge.due("zeros", run.code(block.mine()), 27);
        block.root = block.txs.get(0).name();
        Edge.due("alone", run.code(block.mine()), 0);
    }

    /** The root of a row, by hand: each two become one, the last one with itself or, the other way, as it is. */
    private static byte[] root(List<Kit.Tx> txs, boolean withItself) {
        List<byte[]> row = new ArrayList<>();
        for (Kit.Tx tx : txs) {
            row.add(tx.name());
        }
        while (row.size() > 1) {
            List<byte[]> next = new ArrayList<>();
            for (int i = 0; i + 1 < row.size(); i += 2) {
                next.add(Crypto.name(Kit.joined(row.get(i), row.get(i + 1))));
            }
            if (row.size() % 2 == 1) {
                byte[] last = row.get(row.size() - 1);
                next.add(withItself ? Crypto.name(Kit.joined(last, last)) : last);
            }
            row = next;
        }
        return row.get(0);
    }

    private static void roots() {
        Run run = new Run();
        for (int many = 2; many <= 12; many++) {
            Kit.Block block = sized(many);
            block.root = root(block.txs, true);
            run = run.calls > 350 ? new Run() : run;
            Edge.due("of " + many, run.code(block.mine()), 31);
            for (int at : new int[] {0, 31}) {
                block.root = root(block.txs, true);
                block.root[at] ^= (byte) 128;
                run = run.calls > 350 ? new Run() : run;
                Edge.due("not of " + many, run.code(block.mine()), 27);
            }
        }
    }

    private static void otherRoots() {
        Run run = new Run();
        for (int many : new int[] {3, 5, 6, 7, 9, 10, 11, 12}) {
            Kit.Block block = sized(many);
            block.root = root(block.txs, false);
            run = run.calls > 400 ? new Run() : run;
            Edge.due("of " + many, run.code(block.mine()), 27);
        }
    }

    private static Kit.Tx[] seven() {
        Kit.Tx[] out = new Kit.Tx[7];
        for (int i = 0; i < 7; i++) {
            out[i] = Run.spendNothing();
        }
        return out;
    }

    private static void alike() {
        Kit.Tx[] t = seven();
        Run run = new Run();
        Edge.due("the third and the fourth", run.code(run.next(t[0], t[1], t[1])), 27);
        Edge.due("the fifth and the sixth", run.code(run.next(t[0], t[1], t[2], t[3], t[3], t[4], t[5])), 27);
        Kit.Block last = run.next(t[0], t[1], t[2], t[3], t[4], t[5], t[6]);
        Kit.Tx other = Run.spendNothing();
        last.with(Run.spendNothing(), Run.spendNothing(), other, other);
        Edge.due("the last two of 12", run.code(last.mine()), 27);
    }

    private static void alikeAbove() {
        Kit.Tx[] t = seven();
        Run run = new Run();
        Edge.due("3, 4 and 5, 6 are alike, but not put together",
                run.code(run.next(t[0], t[1], t[2], t[1], t[2])), 31);
        Edge.due("5, 6 and 7, 8", run.code(run.next(t[0], t[1], t[2], t[3], t[4], t[3], t[4])), 27);
        run = new Run();
        Edge.due("9, 10 and 11, 12", run.code(run.next(t[0], t[1], t[2], t[3], t[4], Run.spendNothing(),
                Run.spendNothing(), t[5], t[6], t[5], t[6])), 27);
    }

    private static void notAlike() {
        Kit.Tx[] t = seven();
        Run run = new Run();
        Edge.due("3 with itself", run.code(run.next(t[0], t[1])), 31);
        Edge.due("the second and the third", run.code(run.next(t[0], t[0])), 31);
        Edge.due("the fourth and the fifth", run.code(run.next(t[0], t[1], t[2], t[2])), 31);
        Edge.due("the third and the fifth", run.code(run.next(t[0], t[1], t[2], t[1])), 31);
        Edge.due("3 of 6 with itself", run.code(run.next(t[0], t[1], t[2], t[3], t[4])), 31);
    }

    private static void firstBlock() {
        Run run = new Run();
        byte[] head = Kit.joined(Kit.bytes(1, 0, 0, 0), new byte[64], Kit.bytes(0x40, 0x42, 0x0f, 0),
                Kit.bytes(0xff, 0xff, 0x7f, 0x20), new byte[4]);
        Edge.due("size", head.length, 80);
        Edge.due("its name", run.tipName(0), Model.hex(Crypto.name(head)));
        Edge.due("it is known", run.code(Kit.joined(Kit.bytes(2), head, Kit.bytes(0))), 20);
        Edge.due("no coins of it", run.count(2), 0);
        Edge.due("one is", run.count(0), 1);
        Kit.Block child = run.next();
        child.time = 1000001;
        Edge.due("a time above its own", run.code(child.mine()), 0);
    }
}
