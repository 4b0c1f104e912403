import java.io.ByteArrayOutputStream;
import java.math.BigInteger;
import java.util.ArrayList;
import java.util.Arrays;
import java.util.List;

/**
 * A run of calls on one node, as the document has it: 512 at most, and each one counts. What it answers is held against
 * what is told by hand; no model is beside it.
 */
final class Run {
    static final int MOST_CALLS = 512;
    static final long RICH = 1000000;
    private static long mark;

    final CoinNode node = new CoinNode();
    /** The chain that it has grown, by height. */
    final List<Kit.Block> chain = new ArrayList<>(List.of(Kit.first()));
    int calls;
    private final boolean isLong;

    Run() {
        this(false);
    }

    /** A long run goes on behind its 512th call: what it is about can't be seen before. */
    Run(boolean isLong) {
        this.isLong = isLong;
    }

    private void call() {
        calls++;
        if (calls > MOST_CALLS && !isLong) {
            throw new IllegalStateException("call " + calls);
        }
    }

    boolean feed(int a, int b, int c, int d, int e) {
        call();
        return node.feed(a, b, c, d, e);
    }

    boolean send(int peer, int n) {
        call();
        return node.send(peer, n);
    }

    long fetch(int peer) {
        call();
        return node.fetch(peer);
    }

    long block(int height, int k) {
        call();
        return node.block(height, k);
    }

    int count(int what) {
        call();
        return node.count(what);
    }

    long total() {
        call();
        return node.total();
    }

    long fees() {
        call();
        return node.fees();
    }

    long value(byte[] name, int index) {
        BigInteger all = new BigInteger(1, name);
        long[] words = new long[4];
        for (int i = 0; i < 4; i++) {
            words[i] = all.shiftRight(192 - 64 * i).longValue();
        }
        call();
        node.key(words[0], words[1], words[2], words[3], index);
        call();
        return node.value();
    }

    long value(Kit.Tx maker, int index) {
        return value(maker.name(), index);
    }

    /** Lays a message on the tape. */
    void lay(byte[] message) {
        byte[] padded = Arrays.copyOf(message, (message.length + 19) / 20 * 20);
        for (int at = 0; at < padded.length; at += 20) {
            int[] words = new int[5];
            for (int i = 0; i < 20; i++) {
                words[i / 4] = words[i / 4] << 8 | padded[at + i] & 255;
            }
            feed(words[0], words[1], words[2], words[3], words[4]);
        }
    }

    boolean send(int peer, byte[] message) {
        lay(message);
        return send(peer, message.length);
    }

    byte[] fetchAll(int peer) {
        ByteArrayOutputStream out = new ByteArrayOutputStream();
        int n = 7;
        while (n == 7) {
            long got = fetch(peer);
            n = (int) (got >>> 56);
            for (int i = 0; i < n && i < 7; i++) {
                out.write((int) (got >>> 48 - 8 * i));
            }
        }
        return out.toByteArray();
    }

    /** What waits for a peer, as messages in hex. */
    List<String> answers(int peer) {
        byte[] all = fetchAll(peer);
        List<String> out = new ArrayList<>();
        int at = 0;
        while (at + 2 <= all.length) {
            int size = (all[at] & 255) << 8 | all[at + 1] & 255;
            int end = Math.min(all.length, at + 2 + size);
            out.add(Model.hex(Arrays.copyOfRange(all, at + 2, end)));
            at += 2 + size;
        }
        Edge.due("frames end where the bytes end", at, all.length);
        return out;
    }

    /** Sends a message from a peer for whom nothing waits, and tells the answers. */
    List<String> ask(int peer, byte[]... parts) {
        send(peer, Kit.joined(parts));
        return answers(peer);
    }

    /** Sends from peer 0 and tells the code of the verdict, which is the last that waits for it; -1 if there is none. */
    int code(byte[] message) {
        send(0, message);
        List<String> answers = answers(0);
        String last = answers.isEmpty() ? "" : answers.get(answers.size() - 1);
        return last.length() == 68 && last.startsWith("08") ? Integer.parseInt(last.substring(2, 4), 16) : -1;
    }

    int code(Kit.Tx tx) {
        return code(tx.message());
    }

    int code(Kit.Block block) {
        return code(block.message());
    }

    /** Sends from peer 0 and does not look at the answer. */
    void put(Kit.Tx... txs) {
        for (Kit.Tx tx : txs) {
            send(0, tx.message());
        }
    }

    void put(Kit.Block... blocks) {
        for (Kit.Block block : blocks) {
            send(0, block.message());
        }
    }

    Kit.Block tip() {
        return chain.get(chain.size() - 1);
    }

    /** The first transaction of the block of a height. */
    Kit.Tx root(int height) {
        return chain.get(height).txs.get(0);
    }

    static long mark() {
        return ++mark;
    }

    /** A block behind another that is right, as far as its transactions are. */
    static Kit.Block behind(Kit.Block below, Kit.Tx... txs) {
        Kit.Block block = Kit.behind(below);
        block.bits = Kit.bitsBehind(below);
        return block.with(Kit.root(mark()).out(1)).with(txs).mine();
    }

    /** A block behind the tip. */
    Kit.Block next(Kit.Tx... txs) {
        return behind(tip(), txs);
    }

    /** Puts a block that is to be the tip. */
    Kit.Block add(Kit.Block block) {
        put(block);
        chain.add(block);
        return block;
    }

    /** Puts blocks behind the tip; the first one's first transaction has so many outputs that anybody may spend. */
    Run grow(int blocks, int outputs, Object... lock) {
        for (int i = 0; i < blocks; i++) {
            Kit.Block block = next();
            if (i == 0) {
                block.txs.get(0).outs.clear();
                for (int j = 0; j < outputs; j++) {
                    block.txs.get(0).out(RICH, lock);
                }
                block.mine();
            }
            add(block);
        }
        Edge.due("the height of the chain that is grown", count(1), tip().height);
        return this;
    }

    /** A node whose next block may spend the coins of block 1: each RICH, with an empty lock. */
    static Run ripe(int outputs) {
        return new Run().grow(8, outputs);
    }

    /** A transaction that spends an output of the first transaction of a height. */
    Kit.Tx spend(int height, int output) {
        return new Kit.Tx().time(mark()).in(root(height), output, 81);
    }

    /** A key that no chain has. */
    static Kit.Tx spendNothing() {
        return new Kit.Tx().time(mark()).in(Crypto.name(Kit.low(mark(), 8)), 0, new byte[0]).out(1);
    }

    String tipName() {
        return tipName(count(1));
    }

    String tipName(int height) {
        StringBuilder out = new StringBuilder();
        for (int k = 0; k < 4; k++) {
            out.append(String.format("%016x", block(height, k)));
        }
        return out.toString();
    }

    void tip(String what, Kit.Block due) {
        Edge.due(what + ": the tip", tipName(), Model.hex(due.name()));
    }
}
