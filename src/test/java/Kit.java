import java.io.ByteArrayOutputStream;
import java.math.BigInteger;
import java.util.ArrayList;
import java.util.Arrays;
import java.util.List;

/** What the tests build and look at: scripts, transactions, blocks, and a node with what its peers are answered. */
final class Kit {
    static final long FIRST_TIME = 1000000;
    static final long SUBSIDY = 5000000000L;
    private static int checks;
    private static int wrong;

    private Kit() {
    }

    static void same(String what, Object got, Object due) {
        checks++;
        if (!got.equals(due)) {
            wrong++;
            System.out.println(what + ": " + got + ", due is " + due);
        }
    }

    static void end() {
        System.out.println(checks + " checks, " + wrong + " wrong");
        if (wrong > 0 || checks == 0) {
            System.exit(1);
        }
    }

    static byte[] joined(byte[]... parts) {
        ByteArrayOutputStream out = new ByteArrayOutputStream();
        for (byte[] part : parts) {
            out.writeBytes(part);
        }
        return out.toByteArray();
    }

    static byte[] bytes(int... ones) {
        byte[] out = new byte[ones.length];
        for (int i = 0; i < out.length; i++) {
            out[i] = (byte) ones[i];
        }
        return out;
    }

    static byte[] low(long number, int n) {
        return Model.low(number, n);
    }

    /** A script: an int is a code, bytes are pushed. */
    static byte[] script(Object... parts) {
        ByteArrayOutputStream out = new ByteArrayOutputStream();
        for (Object part : parts) {
            if (part instanceof Integer) {
                out.write((Integer) part);
            } else {
                byte[] element = (byte[]) part;
                if (element.length > 75) {
                    out.write(76);
                }
                out.write(element.length);
                out.writeBytes(element);
            }
        }
        return out.toByteArray();
    }

    static byte[] repeated(int code, int often) {
        byte[] out = new byte[often];
        Arrays.fill(out, (byte) code);
        return out;
    }

    static final class In {
        byte[] name;
        long index;
        byte[] script;
        long sequence = 0xffffffffL;

        In(byte[] name, long index, byte[] script) {
            this.name = name;
            this.index = index;
            this.script = script;
        }
    }

    static final class Out {
        long value;
        byte[] script;

        Out(long value, byte[] script) {
            this.value = value;
            this.script = script;
        }
    }

    static final class Tx {
        long version = 1;
        final List<In> ins = new ArrayList<>();
        final List<Out> outs = new ArrayList<>();
        long time;

        Tx in(byte[] name, long index, byte[] script) {
            ins.add(new In(name, index, script));
            return this;
        }

        Tx in(Tx maker, int index, Object... script) {
            return in(maker.name(), index, script(script));
        }

        Tx out(long value, Object... script) {
            outs.add(new Out(value, script(script)));
            return this;
        }

        Tx time(long time) {
            this.time = time;
            return this;
        }

        byte[] bytes() {
            ByteArrayOutputStream out = new ByteArrayOutputStream();
            out.writeBytes(low(version, 4));
            out.write(ins.size());
            for (In in : ins) {
                out.writeBytes(in.name);
                out.writeBytes(low(in.index, 4));
                out.write(in.script.length);
                out.writeBytes(in.script);
                out.writeBytes(low(in.sequence, 4));
            }
            out.write(outs.size());
            for (Out one : outs) {
                out.writeBytes(low(one.value, 8));
                out.write(one.script.length);
                out.writeBytes(one.script);
            }
            out.writeBytes(low(time, 4));
            return out.toByteArray();
        }

        byte[] name() {
            return Crypto.name(bytes());
        }

        byte[] message() {
            return joined(Kit.bytes(1), bytes());
        }

        Model.Tx parsed() {
            try {
                return new Model.Reader(bytes(), 0).tx();
            } catch (Model.Wrong e) {
                throw new IllegalStateException(e);
            }
        }

        /** The signature of an input that spends a coin with a lock. */
        byte[] sign(int input, byte[] lock, BigInteger secret, int kind) {
            return Crypto.sign(secret, Scripts.signed(parsed(), input, lock, kind), kind, 77 + input);
        }
    }

    /** The first transaction of a block: a mark that makes its name its own, and outputs. */
    static Tx root(long mark) {
        return new Tx().in(new byte[32], 4294967295L, script(low(mark, 4)));
    }

    static final class Block {
        long version = 1;
        byte[] parent;
        byte[] root;
        long time;
        long bits = 0x207fffffL;
        long nonce;
        int height;
        Block below;
        final List<Tx> txs = new ArrayList<>();

        byte[] head() {
            return joined(low(version, 4), parent, root == null ? rootOfTxs() : root, low(time, 4), low(bits, 4),
                    low(nonce, 4));
        }

        private byte[] rootOfTxs() {
            List<byte[]> row = new ArrayList<>();
            for (Tx tx : txs) {
                row.add(tx.name());
            }
            while (row.size() > 1) {
                List<byte[]> next = new ArrayList<>();
                for (int i = 0; i < row.size(); i += 2) {
                    next.add(Crypto.name(joined(row.get(i), row.get(Math.min(i + 1, row.size() - 1)))));
                }
                row = next;
            }
            return row.isEmpty() ? new byte[32] : row.get(0);
        }

        byte[] name() {
            return Crypto.name(head());
        }

        boolean isLow() {
            byte[] name = name();
            byte[] high = new byte[32];
            for (int i = 0; i < 32; i++) {
                high[i] = name[31 - i];
            }
            return new BigInteger(1, high).compareTo(Model.target(bits)) <= 0;
        }

        /** Looks for a nonce with which the name is below the target, or above it. */
        Block mine(boolean toBeLow) {
            byte[] fixed = root;
            root = root == null ? rootOfTxs() : root;
            while (isLow() != toBeLow) {
                nonce++;
            }
            root = fixed;
            return this;
        }

        Block mine() {
            return mine(true);
        }

        byte[] message() {
            byte[] all = joined(bytes(2), head(), bytes(txs.size()));
            for (Tx tx : txs) {
                all = joined(all, tx.bytes());
            }
            return all;
        }

        Block with(Tx... more) {
            txs.addAll(Arrays.asList(more));
            return this;
        }
    }

    /** The first block. */
    static Block first() {
        Block block = new Block();
        block.parent = new byte[32];
        block.root = new byte[32];
        block.time = FIRST_TIME;
        return block;
    }

    /** A block behind another, 600 later, without transactions yet; not for a height that is a multiple of 8. */
    static Block behind(Block below) {
        Block block = new Block();
        block.parent = below.name();
        block.time = below.time + 600;
        block.bits = below.bits;
        block.height = below.height + 1;
        block.below = below;
        return block;
    }

    /** A node, perhaps with the model beside it, and what its peers are answered. */
    static final class Node {
        final CoinNode node = new CoinNode();
        final Model model;
        int calls;

        Node(boolean besideModel) {
            model = besideModel ? new Model() : null;
        }

        Node() {
            this(true);
        }

        boolean feed(int... words) {
            calls++;
            boolean fed = node.feed(words[0], words[1], words[2], words[3], words[4]);
            if (model != null) {
                same("feed", fed, model.feed(words[0], words[1], words[2], words[3], words[4]));
            }
            return fed;
        }

        boolean sendBare(int peer, int n) {
            calls++;
            boolean sent = node.send(peer, n);
            if (model != null) {
                same("send", sent, model.send(peer, n));
            }
            return sent;
        }

        boolean send(int peer, byte[] message) {
            byte[] padded = Arrays.copyOf(message, (message.length + 19) / 20 * 20);
            for (int at = 0; at < padded.length; at += 20) {
                int[] words = new int[5];
                for (int i = 0; i < 20; i++) {
                    words[i / 4] = words[i / 4] << 8 | padded[at + i] & 255;
                }
                feed(words);
            }
            boolean sent = sendBare(peer, message.length);
            if (model != null) {
                alike();
            }
            return sent;
        }

        long fetch(int peer) {
            calls++;
            long got = node.fetch(peer);
            if (model != null) {
                same("fetch", got, model.fetch(peer));
            }
            return got;
        }

        /** Whether the node and the model stand alike. */
        void alike() {
            for (int what = -1; what < 7; what++) {
                same("count " + what, node.count(what), model.count(what));
            }
            same("total", node.total(), model.total());
            same("fees", node.fees(), model.fees());
            int height = node.count(1);
            for (int k = -1; k < 5; k++) {
                same("block " + height, node.block(height, k), model.block(height, k));
                same("block below", node.block(height / 2, k), model.block(height / 2, k));
            }
        }

        byte[] fetchAll(int peer) {
            ByteArrayOutputStream out = new ByteArrayOutputStream();
            for (int turn = 0; turn < 2000; turn++) {
                long got = fetch(peer);
                int n = (int) (got >>> 56);
                for (int i = 0; i < n; i++) {
                    out.write((int) (got >>> 48 - 8 * i));
                }
                if (n == 0) {
                    break;
                }
            }
            return out.toByteArray();
        }

        /** What waits for a peer, as messages in hex. */
        List<String> answers(int peer) {
            byte[] all = fetchAll(peer);
            List<String> out = new ArrayList<>();
            int at = 0;
            while (at + 2 <= all.length) {
                int size = (all[at] & 255) << 8 | all[at + 1] & 255;
                out.add(Model.hex(Arrays.copyOfRange(all, at + 2, at + 2 + size)));
                at += 2 + size;
            }
            same("frames end where the bytes end", at, all.length);
            return out;
        }

        void drain() {
            for (int peer = 0; peer < 4; peer++) {
                fetchAll(peer);
            }
        }

        /** Sends a transaction or a block from peer 0; the code of the verdict, or -1 if there is none. */
        int code(byte[] message) {
            drain();
            send(0, message);
            List<String> answers = answers(0);
            if (answers.size() != 1 || !answers.get(0).startsWith("08")) {
                return -1;
            }
            byte[] verdict = Model.unhex(answers.get(0));
            same("size of a verdict", verdict.length, 34);
            return verdict[1];
        }

        int code(Tx tx) {
            return code(tx.message());
        }

        int code(Block block) {
            return code(block.message());
        }

        long value(byte[] name, int index) {
            BigInteger all = new BigInteger(1, name);
            long[] words = new long[4];
            for (int i = 0; i < 4; i++) {
                words[i] = all.shiftRight(192 - 64 * i).longValue();
            }
            node.key(words[0], words[1], words[2], words[3], index);
            calls++;
            long value = node.value();
            if (model != null) {
                model.key(words[0], words[1], words[2], words[3], index);
                same("value", value, model.value());
            }
            return value;
        }
    }

    /** A chain of blocks whose first transactions have so many outputs, each with a lock; taken by the node. */
    static List<Block> grow(Node node, Block below, int many, int outputs, long mark, Object... lock) {
        List<Block> blocks = new ArrayList<>();
        Block last = below;
        for (int i = 0; i < many; i++) {
            Block next = behind(last);
            next.bits = bitsBehind(last);
            Tx root = root(mark + i);
            for (int j = 0; j < outputs; j++) {
                root.out(SUBSIDY / 2 / outputs, lock);
            }
            next.with(root).mine();
            same("a plain block is right", node.code(next), 0);
            blocks.add(next);
            last = next;
        }
        return blocks;
    }

    static long bitsBehind(Block below) {
        if ((below.height + 1) % 8 != 0) {
            return below.bits;
        }
        Block lowest = below;
        for (int i = 0; i < 7; i++) {
            lowest = lowest.below;
        }
        long t = Math.max(1200, Math.min(19200, below.time - lowest.time));
        BigInteger next = Model.target(below.bits).multiply(BigInteger.valueOf(t)).divide(BigInteger.valueOf(4800));
        return Model.compact(next.min(Model.target(0x207fffffL)));
    }
}
