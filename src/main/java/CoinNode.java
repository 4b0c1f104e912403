import java.util.Arrays;

/** A node of a chain of blocks with coins. Here: the tape, the messages of the peers, and what they are answered. */
public final class CoinNode {
    private static final int PEERS = 4;
    private static final int TAPE_BYTES = 2000;
    private static final int BOX_BYTES = 8000;
    private static final int FRAME_BYTES = 2000;
    private static final int NAME = 32;
    private static final int HEAD = 80;
    private static final int MOST_NAMES = 20;
    private static final int MOST_ASKED = 8;
    private static final int MOST_HEADS = 16;
    private static final int TRANSACTION = 1;
    private static final int BLOCK = 2;
    private static final int WHAT_IS_BEHIND = 3;
    private static final int GIVE = 4;
    private static final int HEADS = 5;
    private static final int I_HAVE = 6;
    private static final int I_HAVE_NOT = 7;
    private static final int VERDICT = 8;
    private static final int NOT_UNDERSTOOD = 1;

    private final byte[] tape = new byte[TAPE_BYTES];
    private int tapeSize;
    private final byte[] keyName = new byte[NAME];
    private int keyIndex;
    private final byte[][] boxes = new byte[PEERS][BOX_BYTES];
    private final int[] boxStarts = new int[PEERS];
    private final int[] boxSizes = new int[PEERS];
    private final byte[] frame = new byte[FRAME_BYTES];
    private int frameSize;
    private final Hash hash = new Hash();
    private final Scripts scripts = new Scripts(hash);
    private final Coins coins = new Coins();
    private final Chain chain = new Chain(hash, coins, scripts);
    private final Pool pool = new Pool(coins, scripts);

    public CoinNode() {
    }

    public boolean feed(int a, int b, int c, int d, int e) {
        if (tapeSize + 20 > TAPE_BYTES) {
            return false;
        }
        layOnTape(a);
        layOnTape(b);
        layOnTape(c);
        layOnTape(d);
        layOnTape(e);
        return true;
    }

    public boolean send(int peer, int n) {
        if (peer < 0 || peer >= PEERS || n < 1 || n > tapeSize || n > tape.length) {
            return false;
        }
        byte[] message = Arrays.copyOf(tape, n);
        tapeSize = 0;
        switch (message[0]) {
            case TRANSACTION:
                takeTransaction(peer, message);
                break;
            case BLOCK:
                // not in a method of its own: from here the calls go as deep as they may
                Block before = chain.tip;
                Block block = Block.read(message, hash);
                int code = block == null ? NOT_UNDERSTOOD : chain.refusal(block);
                if (block != null && code == 0) {
                    code = chain.adopt(block);
                }
                if (chain.tip != before) {
                    pool.makeAnew(chain.left, chain.leftMany, chain.tip.height + 1);
                }
                answerBlock(peer, block, code, chain.tip != before);
                break;
            case WHAT_IS_BEHIND:
                answerWhatIsBehind(peer, message);
                break;
            case GIVE:
                answerGive(peer, message);
                break;
            case I_HAVE:
                answerIHave(peer, message);
                break;
            default:
                answerVerdict(peer, NOT_UNDERSTOOD, null);
        }
        return true;
    }

    public long fetch(int peer) {
        if (peer < 0 || peer >= PEERS) {
            return 0;
        }
        int n = Math.min(7, boxSizes[peer]);
        long taken = n;
        for (int i = 0; i < 7; i++) {
            int next = 0;
            int at = (boxStarts[peer] + i) % BOX_BYTES;
            if (i < n && at >= 0) {
                next = boxes[peer][at] & 255;
            }
            taken = taken << 8 | next;
        }
        boxStarts[peer] = (boxStarts[peer] + n) % BOX_BYTES;
        boxSizes[peer] -= n;
        return taken;
    }

    public long block(int height, int k) {
        Block block = chain.at(height);
        if (block == null || k < 0 || k > 3) {
            return 0;
        }
        long eight = 0;
        for (int i = 0; i < 8; i++) {
            eight = eight << 8 | block.name[8 * k + i] & 255;
        }
        return eight;
    }

    public void key(long a, long b, long c, long d, int index) {
        for (int i = 0; i < 8; i++) {
            int shift = 56 - 8 * i;
            keyName[i] = (byte) (a >>> shift);
            keyName[8 + i] = (byte) (b >>> shift);
            keyName[16 + i] = (byte) (c >>> shift);
            keyName[24 + i] = (byte) (d >>> shift);
        }
        keyIndex = index;
    }

    public long value() {
        int place = coins.find(keyName, 0, keyIndex);
        return place < 0 ? -1 : coins.worth(place);
    }

    public long total() {
        return coins.sum;
    }

    public int count(int what) {
        switch (what) {
            case 0:
                return chain.many;
            case 1:
                return chain.tip.height;
            case 2:
                return coins.many;
            case 3:
                return pool.many;
            case 4:
                return tapeSize;
            case 5:
                return chain.bad;
            default:
                return -1;
        }
    }

    public long fees() {
        return pool.gain();
    }

    private void layOnTape(int word) {
        for (int shift = 24; shift >= 0; shift -= 8) {
            if (tapeSize < tape.length) {
                tape[tapeSize] = (byte) (word >>> shift);
                tapeSize++;
            }
        }
    }

    private void takeTransaction(int peer, byte[] message) {
        Tx tx = Tx.read(message, 1);
        if (tx == null || 1 + tx.size != message.length) {
            answerVerdict(peer, NOT_UNDERSTOOD, null);
            return;
        }
        hash.name(message, 1, tx.size, tx.name);
        int code = pool.offer(tx, chain.tip.height + 1, true);
        answerVerdict(peer, code, tx.name);
        if (code == 0) {
            tellOthers(peer, TRANSACTION, tx.name);
        }
    }

    private void answerBlock(int peer, Block block, int code, boolean isTip) {
        if (block != null && code == Chain.ORPHAN) {
            askWhatIsBehind(peer);
            return;
        }
        answerVerdict(peer, code, block == null ? null : block.name);
        if (isTip) {
            tellOthers(peer, BLOCK, chain.tip.name);
        }
    }

    private void answerVerdict(int peer, int code, byte[] name) {
        begin(VERDICT);
        put(code);
        for (int i = 0; i < NAME; i++) {
            put(name == null || i >= name.length ? 0 : name[i]);
        }
        post(peer);
    }

    private void tellOthers(int peer, int kind, byte[] name) {
        begin(I_HAVE);
        put(1);
        put(kind);
        put(name, 0, NAME);
        for (int other = 0; other < PEERS; other++) {
            if (other != peer) {
                post(other);
            }
        }
    }

    /** The row of the tip: near the tip every name, then ever wider steps down to the first block. */
    private void askWhatIsBehind(int peer) {
        begin(WHAT_IS_BEHIND);
        put(0);
        int height = chain.tip.height;
        int step = 1;
        int many = 0;
        for (int i = 0; i < MOST_NAMES; i++) {
            Block block = chain.at(height);
            if (block == null) {
                break;
            }
            put(block.name, 0, NAME);
            many++;
            if (height == 0) {
                break;
            }
            if (many > 9) {
                step *= 2;
            }
            height = Math.max(0, height - step);
        }
        frame[1] = (byte) many;
        post(peer);
    }

    private void answerWhatIsBehind(int peer, byte[] message) {
        int names = message.length < 2 ? -1 : message[1];
        if (names < 0 || names > MOST_NAMES || message.length != 2 + NAME * names) {
            answerVerdict(peer, NOT_UNDERSTOOD, null);
            return;
        }
        int height = 0;
        for (int i = 0; i < names; i++) {
            Block block = chain.find(message, 2 + NAME * i);
            if (block != null && chain.at(block.height) == block) {
                height = block.height;
                break;
            }
        }
        int heads = Math.min(MOST_HEADS, chain.tip.height - height);
        begin(HEADS);
        put(heads);
        for (int i = 1; i <= heads; i++) {
            Block block = chain.at(height + i);
            if (block != null) {
                put(block.row, 1, HEAD);
            }
        }
        post(peer);
    }

    private void answerGive(int peer, byte[] message) {
        if (!isList(message)) {
            answerVerdict(peer, NOT_UNDERSTOOD, null);
            return;
        }
        for (int at = 2; at + NAME < message.length; at += 1 + NAME) {
            Tx tx = message[at] == TRANSACTION ? pool.find(message, at + 1) : null;
            Block block = message[at] == BLOCK ? chain.find(message, at + 1) : null;
            if (tx != null) {
                begin(TRANSACTION);
                put(tx.row, tx.from, tx.size);
            } else if (block != null && block.height > 0) {
                begin(BLOCK);
                put(block.row, 1, block.row.length - 1);
            } else {
                begin(I_HAVE_NOT);
                put(message, at, 1 + NAME);
            }
            post(peer);
        }
    }

    private void answerIHave(int peer, byte[] message) {
        if (!isList(message)) {
            answerVerdict(peer, NOT_UNDERSTOOD, null);
            return;
        }
        begin(GIVE);
        put(0);
        int many = 0;
        for (int at = 2; at + NAME < message.length; at += 1 + NAME) {
            boolean there = message[at] == TRANSACTION
                    ? pool.find(message, at + 1) != null
                    : chain.find(message, at + 1) != null;
            if (!there) {
                put(message, at, 1 + NAME);
                many++;
            }
        }
        frame[1] = (byte) many;
        if (many > 0) {
            post(peer);
        }
    }

    /** Whether a GIVE or an I HAVE is whole and names nothing but transactions and blocks. */
    private static boolean isList(byte[] message) {
        int many = message.length < 2 ? 0 : message[1];
        if (many < 1 || many > MOST_ASKED || message.length != 2 + (1 + NAME) * many) {
            return false;
        }
        for (int at = 2; at < message.length; at += 1 + NAME) {
            if (message[at] != TRANSACTION && message[at] != BLOCK) {
                return false;
            }
        }
        return true;
    }

    private void begin(int kind) {
        frame[0] = (byte) kind;
        frameSize = 1;
    }

    private void put(int one) {
        if (frameSize < frame.length) {
            frame[frameSize] = (byte) one;
            frameSize++;
        }
    }

    private void put(byte[] row, int from, int n) {
        if (from < 0 || n < 0 || from + n > row.length || frameSize + n > frame.length) {
            return;
        }
        System.arraycopy(row, from, frame, frameSize, n);
        frameSize += n;
    }

    private void post(int peer) {
        if (peer < 0 || peer >= PEERS || boxSizes[peer] + 2 + frameSize > BOX_BYTES) {
            return;
        }
        int end = boxStarts[peer] + boxSizes[peer];
        for (int i = -2; i < frameSize; i++) {
            int one = i == -2 ? frameSize >> 8 : i == -1 ? frameSize : frame[i];
            boxes[peer][(end + 2 + i) % BOX_BYTES] = (byte) one;
        }
        boxSizes[peer] += 2 + frameSize;
    }

    /** SHA-256 and RIPEMD-160, over bytes that take() has laid ready. */
    private static final class Hash {
        private static final int ROOM = 2560;
        private static final int[] START = {
            0x6a09e667, 0xbb67ae85, 0x3c6ef372, 0xa54ff53a, 0x510e527f, 0x9b05688c, 0x1f83d9ab, 0x5be0cd19};
        private static final int[] ROUNDS = {
            0x428a2f98, 0x71374491, 0xb5c0fbcf, 0xe9b5dba5, 0x3956c25b, 0x59f111f1, 0x923f82a4, 0xab1c5ed5,
            0xd807aa98, 0x12835b01, 0x243185be, 0x550c7dc3, 0x72be5d74, 0x80deb1fe, 0x9bdc06a7, 0xc19bf174,
            0xe49b69c1, 0xefbe4786, 0x0fc19dc6, 0x240ca1cc, 0x2de92c6f, 0x4a7484aa, 0x5cb0a9dc, 0x76f988da,
            0x983e5152, 0xa831c66d, 0xb00327c8, 0xbf597fc7, 0xc6e00bf3, 0xd5a79147, 0x06ca6351, 0x14292967,
            0x27b70a85, 0x2e1b2138, 0x4d2c6dfc, 0x53380d13, 0x650a7354, 0x766a0abb, 0x81c2c92e, 0x92722c85,
            0xa2bfe8a1, 0xa81a664b, 0xc24b8b70, 0xc76c51a3, 0xd192e819, 0xd6990624, 0xf40e3585, 0x106aa070,
            0x19a4c116, 0x1e376c08, 0x2748774c, 0x34b0bcb5, 0x391c0cb3, 0x4ed8aa4a, 0x5b9cca4f, 0x682e6ff3,
            0x748f82ee, 0x78a5636f, 0x84c87814, 0x8cc70208, 0x90befffa, 0xa4506ceb, 0xbef9a3f7, 0xc67178f2};
        /** The words that RIPEMD-160 takes in its 80 steps, of its left line and then of its right one. */
        private static final int[] WORD = {
            0, 1, 2, 3, 4, 5, 6, 7, 8, 9, 10, 11, 12, 13, 14, 15,
            7, 4, 13, 1, 10, 6, 15, 3, 12, 0, 9, 5, 2, 14, 11, 8,
            3, 10, 14, 4, 9, 15, 8, 1, 2, 7, 0, 6, 13, 11, 5, 12,
            1, 9, 11, 10, 0, 8, 12, 4, 13, 3, 7, 15, 14, 5, 6, 2,
            4, 0, 5, 9, 7, 12, 2, 10, 14, 1, 3, 8, 11, 6, 15, 13,
            5, 14, 7, 0, 9, 2, 11, 4, 13, 6, 15, 8, 1, 10, 3, 12,
            6, 11, 3, 7, 0, 13, 5, 10, 14, 15, 8, 12, 4, 9, 1, 2,
            15, 5, 1, 3, 7, 14, 6, 9, 11, 8, 12, 2, 10, 0, 4, 13,
            8, 6, 4, 1, 3, 11, 15, 0, 5, 12, 2, 13, 9, 7, 10, 14,
            12, 15, 10, 4, 1, 5, 8, 7, 6, 2, 13, 14, 0, 3, 9, 11};
        private static final int[] TURN = {
            11, 14, 15, 12, 5, 8, 7, 9, 11, 13, 14, 15, 6, 7, 9, 8,
            7, 6, 8, 13, 11, 9, 7, 15, 7, 12, 15, 9, 11, 7, 13, 12,
            11, 13, 6, 7, 14, 9, 13, 15, 14, 8, 13, 6, 5, 12, 7, 5,
            11, 12, 14, 15, 14, 15, 9, 8, 9, 14, 5, 6, 8, 6, 5, 12,
            9, 15, 5, 11, 6, 8, 13, 12, 5, 12, 13, 14, 11, 8, 5, 6,
            8, 9, 9, 11, 13, 15, 15, 5, 7, 7, 8, 11, 14, 14, 12, 6,
            9, 13, 15, 7, 12, 8, 9, 11, 7, 7, 12, 7, 6, 15, 13, 11,
            9, 7, 15, 11, 8, 6, 6, 14, 12, 13, 5, 14, 13, 13, 7, 5,
            15, 5, 8, 11, 14, 14, 6, 14, 6, 9, 12, 9, 12, 5, 15, 8,
            8, 5, 12, 9, 12, 5, 14, 6, 8, 13, 6, 5, 15, 13, 11, 11};
        private static final int[] ADDED = {
            0, 0x5a827999, 0x6ed9eba1, 0x8f1bbcdc, 0xa953fd4e, 0x50a28be6, 0x5c4dd124, 0x6d703ef3, 0x7a6d76e9, 0};

        private final byte[] ready = new byte[ROOM];
        private int readySize;
        private final int[] state = new int[8];
        private final int[] words = new int[64];
        private final int[] line = new int[5];
        private final byte[] between = new byte[NAME];

        /** Lays bytes ready, with the bit 1 behind them and zeros up to where their number is put. */
        void take(byte[] row, int from, int size) {
            readySize = 0;
            if (from < 0 || size < 0 || size + 72 > ROOM || from + size > row.length) {
                return;
            }
            System.arraycopy(row, from, ready, 0, size);
            for (int i = size; i < size + 72; i++) {
                ready[i] = 0;
            }
            ready[size] = (byte) 128;
            readySize = size;
        }

        /** The SHA-256 of the bytes that are ready. */
        void digest(byte[] to) {
            System.arraycopy(START, 0, state, 0, 8);
            int parts = (readySize + 8) / 64 + 1;
            for (int part = 0; part < parts; part++) {
                for (int i = 0; i < 16; i++) {
                    int at = 64 * part + 4 * i;
                    words[i] = at + 3 >= ROOM ? 0 : ready[at] << 24 | (ready[at + 1] & 255) << 16
                            | (ready[at + 2] & 255) << 8 | ready[at + 3] & 255;
                }
                if (part == parts - 1) {
                    words[15] = 8 * readySize;
                }
                for (int i = 16; i < 64; i++) {
                    int x = words[i - 15];
                    int y = words[i - 2];
                    words[i] = words[i - 16] + words[i - 7]
                            + ((x >>> 7 | x << 25) ^ (x >>> 18 | x << 14) ^ x >>> 3)
                            + ((y >>> 17 | y << 15) ^ (y >>> 19 | y << 13) ^ y >>> 10);
                }
                int a = state[0], b = state[1], c = state[2], d = state[3];
                int e = state[4], f = state[5], g = state[6], h = state[7];
                for (int i = 0; i < 64; i++) {
                    int one = h + ((e >>> 6 | e << 26) ^ (e >>> 11 | e << 21) ^ (e >>> 25 | e << 7))
                            + (e & f ^ ~e & g) + ROUNDS[i] + words[i];
                    int two = ((a >>> 2 | a << 30) ^ (a >>> 13 | a << 19) ^ (a >>> 22 | a << 10))
                            + (a & b ^ a & c ^ b & c);
                    h = g;
                    g = f;
                    f = e;
                    e = d + one;
                    d = c;
                    c = b;
                    b = a;
                    a = one + two;
                }
                state[0] += a;
                state[1] += b;
                state[2] += c;
                state[3] += d;
                state[4] += e;
                state[5] += f;
                state[6] += g;
                state[7] += h;
            }
            for (int i = 0; i < NAME && i < to.length; i++) {
                to[i] = (byte) (state[i / 4] >>> 24 - 8 * (i % 4));
            }
        }

        /** The RIPEMD-160 of the bytes that are ready. */
        void ripe(byte[] to) {
            state[0] = 0x67452301;
            state[1] = 0xefcdab89;
            state[2] = 0x98badcfe;
            state[3] = 0x10325476;
            state[4] = 0xc3d2e1f0;
            int parts = (readySize + 8) / 64 + 1;
            for (int part = 0; part < parts; part++) {
                for (int i = 0; i < 16; i++) {
                    int at = 64 * part + 4 * i;
                    words[i] = at + 3 >= ROOM ? 0 : ready[at + 3] << 24 | (ready[at + 2] & 255) << 16
                            | (ready[at + 1] & 255) << 8 | ready[at] & 255;
                }
                if (part == parts - 1) {
                    words[14] = 8 * readySize;
                }
                for (int side = 0; side < 2; side++) {
                    int a = state[0], b = state[1], c = state[2], d = state[3], e = state[4];
                    for (int i = 80 * side; i < 80 * side + 80; i++) {
                        int round = i / 16;
                        int f = round == 0 || round == 9 ? b ^ c ^ d
                                : round == 1 || round == 8 ? b & c | ~b & d
                                : round == 2 || round == 7 ? (b | ~c) ^ d
                                : round == 3 || round == 6 ? b & d | c & ~d : b ^ (c | ~d);
                        int sum = a + f + words[WORD[i]] + ADDED[round];
                        int next = (sum << TURN[i] | sum >>> 32 - TURN[i]) + e;
                        a = e;
                        e = d;
                        d = c << 10 | c >>> 22;
                        c = b;
                        b = next;
                    }
                    if (side == 0) {
                        line[0] = a;
                        line[1] = b;
                        line[2] = c;
                        line[3] = d;
                        line[4] = e;
                    } else {
                        int first = state[1] + line[2] + d;
                        state[1] = state[2] + line[3] + e;
                        state[2] = state[3] + line[4] + a;
                        state[3] = state[4] + line[0] + b;
                        state[4] = state[0] + line[1] + c;
                        state[0] = first;
                    }
                }
            }
            for (int i = 0; i < 20 && i < to.length; i++) {
                to[i] = (byte) (state[i / 4] >>> 8 * (i % 4));
            }
        }

        /** The digest of the digest. */
        void name(byte[] row, int from, int size, byte[] to) {
            take(row, from, size);
            digest(between);
            take(between, 0, NAME);
            digest(to);
        }

        static boolean same(byte[] a, int from, byte[] b, int start) {
            if (from < 0 || start < 0 || from + NAME > a.length || start + NAME > b.length) {
                return false;
            }
            for (int i = 0; i < NAME; i++) {
                if (a[from + i] != b[start + i]) {
                    return false;
                }
            }
            return true;
        }
    }

    /** A transaction that stands, from a byte on, in the message that brought it. */
    private static final class Tx {
        private static final int MOST = 8;
        private static final int LONGEST_SCRIPT = 200;
        private static final long MOST_WORTH = 2100000000000000L;
        private static final int NONE = -1;

        final byte[] row;
        final int from;
        int size;
        final byte[] name = new byte[NAME];
        /** Where each input begins: name, index, size of the script, script, sequence. */
        int[] inputs = new int[0];
        /** Where each output begins: value, size of the script, script. */
        int[] outputs = new int[0];
        long sum;
        boolean hasRootInput;

        private Tx(byte[] row, int from) {
            this.row = row;
            this.from = from;
        }

        /** The transaction that begins there, still without its name; null if there is none. */
        static Tx read(byte[] row, int from) {
            Tx tx = new Tx(row, from);
            int at = tx.readInputs(from + 4);
            at = at == NONE ? NONE : tx.readOutputs(at);
            if (at == NONE || at + 4 > row.length) {
                return null;
            }
            tx.size = at + 4 - from;
            return tx;
        }

        private int readInputs(int start) {
            int many = sizeAt(row, start, MOST);
            if (many == NONE) {
                return NONE;
            }
            inputs = new int[many];
            int at = start + 1;
            for (int i = 0; i < many; i++) {
                int script = sizeAt(row, at + 36, LONGEST_SCRIPT);
                if (script == NONE) {
                    return NONE;
                }
                inputs[i] = at;
                hasRootInput |= isRootInput(at);
                at += 37 + script + 4;
            }
            return at;
        }

        private int readOutputs(int start) {
            int many = sizeAt(row, start, MOST);
            if (many == NONE) {
                return NONE;
            }
            outputs = new int[many];
            int at = start + 1;
            for (int i = 0; i < many; i++) {
                int script = sizeAt(row, at + 8, LONGEST_SCRIPT);
                if (script == NONE) {
                    return NONE;
                }
                outputs[i] = at;
                sum += worth(i);
                at += 9 + script;
            }
            return at;
        }

        /** No size up to 252 may be longer than a byte, and none that counts here is above that. */
        static int sizeAt(byte[] row, int at, int most) {
            if (at < 0 || at >= row.length) {
                return NONE;
            }
            int size = row[at] & 255;
            return size > most ? NONE : size;
        }

        static int low(byte[] row, int at) {
            if (at < 0 || at + 4 > row.length) {
                return 0;
            }
            return row[at] & 255 | (row[at + 1] & 255) << 8 | (row[at + 2] & 255) << 16 | row[at + 3] << 24;
        }

        int index(int input) {
            return input < 0 || input >= inputs.length ? 0 : low(row, inputs[input] + 32);
        }

        long worth(int output) {
            if (output < 0 || output >= outputs.length) {
                return 0;
            }
            int at = outputs[output];
            return (long) low(row, at + 4) << 32 | low(row, at) & 0xffffffffL;
        }

        int inputScript(int input) {
            return input < 0 || input >= inputs.length ? 0 : inputs[input] + 37;
        }

        int outputScript(int output) {
            return output < 0 || output >= outputs.length ? 0 : outputs[output] + 9;
        }

        /** The size that stands before a script that begins there. */
        int scriptSize(int script) {
            return script < 1 || script > row.length ? 0 : row[script - 1] & 255;
        }

        private boolean isRootInput(int at) {
            for (int i = 0; i < NAME + 4; i++) {
                int due = i < NAME ? 0 : -1;
                if (at < 0 || at + i >= row.length || row[at + i] != due) {
                    return false;
                }
            }
            return true;
        }

        boolean isTooMuch() {
            long all = 0;
            for (int i = 0; i < outputs.length; i++) {
                long one = worth(i);
                if (one < 0 || one > MOST_WORTH) {
                    return true;
                }
                all += one;
            }
            return all > MOST_WORTH;
        }

        /** What is wrong with it whatever the chain may be, as the code of its verdict. */
        int fault() {
            if (inputs.length == 0 || outputs.length == 0) {
                return 2;
            }
            if (isTooMuch()) {
                return 3;
            }
            for (int i = 0; i < inputs.length; i++) {
                for (int j = 0; j < i; j++) {
                    if (index(i) == index(j) && Hash.same(row, inputs[i], row, inputs[j])) {
                        return 4;
                    }
                }
            }
            return 0;
        }

        boolean spendsOf(Tx other) {
            for (int i = 0; i < inputs.length; i++) {
                if (Hash.same(row, inputs[i], other.name, 0)) {
                    return true;
                }
            }
            return false;
        }

        boolean sharesKeyWith(Tx other) {
            for (int i = 0; i < inputs.length; i++) {
                for (int j = 0; j < other.inputs.length; j++) {
                    if (index(i) == other.index(j) && Hash.same(row, inputs[i], other.row, other.inputs[j])) {
                        return true;
                    }
                }
            }
            return false;
        }

        /** Whether it spends a key with the other's name that is none of the other's outputs. */
        boolean missesOutputOf(Tx other) {
            for (int i = 0; i < inputs.length; i++) {
                int index = index(i);
                if ((index < 0 || index >= other.outputs.length) && Hash.same(row, inputs[i], other.name, 0)) {
                    return true;
                }
            }
            return false;
        }
    }

    /** A block and what is known of it; its row is the message that brought it. */
    private static final class Block {
        private static final int MOST = 12;

        final byte[] row;
        final byte[] name = new byte[NAME];
        final int bits;
        final long time;
        Tx[] txs = new Tx[0];
        Block parent;
        int height;
        boolean bad;
        final int[] work = new int[8];

        Block(byte[] row) {
            this.row = row;
            this.time = Tx.low(row, 69) & 0xffffffffL;
            this.bits = Tx.low(row, 73);
        }

        /** The block of a message; null if that is none. */
        static Block read(byte[] message, Hash hash) {
            int many = Tx.sizeAt(message, 1 + HEAD, MOST);
            if (many < 0) {
                return null;
            }
            Block block = new Block(message);
            block.txs = new Tx[many];
            int at = 2 + HEAD;
            for (int i = 0; i < many; i++) {
                Tx tx = Tx.read(message, at);
                if (tx == null) {
                    return null;
                }
                hash.name(message, at, tx.size, tx.name);
                block.txs[i] = tx;
                at += tx.size;
            }
            if (at != message.length) {
                return null;
            }
            hash.name(message, 1, HEAD, block.name);
            return block;
        }

        /** Whether its transactions stand as a block's must: one root input, at their head, and nowhere else. */
        boolean isShaped() {
            if (txs.length == 0 || txs[0].inputs.length != 1 || !txs[0].hasRootInput) {
                return false;
            }
            int script = txs[0].scriptSize(txs[0].inputScript(0));
            if (script < 2 || script > 100) {
                return false;
            }
            for (int i = 1; i < txs.length; i++) {
                if (txs[i].hasRootInput) {
                    return false;
                }
            }
            return true;
        }

        /** Whether the root is that of its transactions, and of no other row of them as well. */
        boolean isRooted(byte[] names, byte[] name, Hash hash) {
            int many = Math.min(txs.length, names.length / NAME);
            if (many < 1) {
                return false;
            }
            for (int i = 0; i < many; i++) {
                System.arraycopy(txs[i].name, 0, names, NAME * i, NAME);
            }
            for (int turn = 0; turn < MOST && many > 1; turn++) {
                int pairs = 0;
                for (int i = 0; i < many; i += 2) {
                    boolean alone = i + 1 == many;
                    if (!alone && Hash.same(names, NAME * i, names, NAME * (i + 1))) {
                        return false;
                    }
                    if (alone && NAME * (i + 2) <= names.length) {
                        System.arraycopy(names, NAME * i, names, NAME * (i + 1), NAME);
                    }
                    hash.name(names, NAME * i, 2 * NAME, name);
                    System.arraycopy(name, 0, names, NAME * pairs, NAME);
                    pairs++;
                }
                many = pairs;
            }
            return Hash.same(names, 0, row, 37);
        }

        /** Whether one of its transactions is faulty by itself. */
        boolean isFaulty() {
            for (int i = 0; i < txs.length; i++) {
                Tx tx = txs[i];
                boolean faulty = i == 0 ? tx.outputs.length == 0 || tx.isTooMuch() : tx.fault() != 0;
                if (faulty) {
                    return true;
                }
            }
            return false;
        }
    }

    /** The blocks that are known, the rules for those that come, and the chain of the tip. */
    private static final class Chain {
        static final int ORPHAN = 21;
        private static final int MOST = 300;
        private static final int SPAN = 8;
        private static final int LEAST_TIME = 1200;
        private static final int MOST_TIME = 19200;
        private static final int DUE_TIME = 4800;
        private static final int FIRST_TIME = 1000000;
        private static final int FIRST_BITS = 0x207fffff;
        private static final int FAULT_BEFORE = 22;
        private static final long LOW = 0xffffffffL;

        private final Hash hash;
        private final Coins coins;
        private final Scripts scripts;
        private final Block[] known = new Block[MOST];
        int many;
        int bad;
        Block tip;
        /** The chain of the tip, and the chain that is looked at, each by height. */
        private final Block[] line = new Block[MOST];
        private final Block[] way = new Block[MOST];
        /** The blocks that the tip left when it was last made, from the lowest on. */
        final Block[] left = new Block[MOST];
        int leftMany;
        private final int[] target = new int[9];
        private final int[] limit = new int[9];
        private final int[] rest = new int[9];
        private final long[] times = new long[11];
        private final byte[] names = new byte[NAME * (Block.MOST + 1)];
        private final byte[] name = new byte[NAME];

        Chain(Hash hash, Coins coins, Scripts scripts) {
            this.hash = hash;
            this.coins = coins;
            this.scripts = scripts;
            byte[] row = new byte[2 + HEAD];
            row[1] = 1;
            for (int i = 0; i < 4; i++) {
                row[69 + i] = (byte) (FIRST_TIME >>> 8 * i);
                row[73 + i] = (byte) (FIRST_BITS >>> 8 * i);
            }
            Block first = new Block(row);
            hash.name(row, 1, HEAD, first.name);
            known[0] = first;
            line[0] = first;
            many = 1;
            tip = first;
        }

        /** The block of a height in the chain of the tip; null if there is none. */
        Block at(int height) {
            return height < 0 || height > tip.height || height >= MOST ? null : line[height];
        }

        Block find(byte[] row, int from) {
            for (int i = 0; i < many; i++) {
                if (Hash.same(known[i].name, 0, row, from)) {
                    return known[i];
                }
            }
            return null;
        }

        /** The code with which a block that comes is refused before it is known; 0 if it is not. */
        int refusal(Block block) {
            if (find(block.name, 0) != null) {
                return 20;
            }
            Block parent = find(block.row, 5);
            if (parent == null) {
                return ORPHAN;
            }
            block.parent = parent;
            block.height = parent.height + 1;
            if (parent.bad) {
                return FAULT_BEFORE;
            }
            if (block.bits != bitsBehind(parent)) {
                return 23;
            }
            if (block.time <= median(parent)) {
                return 24;
            }
            setTarget(target, block.bits);
            if (isAbove(block.name, target)) {
                return 25;
            }
            if (!block.isShaped()) {
                return 26;
            }
            if (!block.isRooted(names, name, hash)) {
                return 27;
            }
            if (block.isFaulty()) {
                return 28;
            }
            return many >= MOST || block.height >= MOST ? 30 : 0;
        }

        /** Makes a block known, looks for the tip anew, and tells the code of the block's verdict. */
        int adopt(Block block) {
            leftMany = 0;
            if (many >= MOST) {
                return 30;
            }
            setWork(block);
            known[many] = block;
            many++;
            int code = 0;
            boolean moved = false;
            for (int turn = 0; turn < MOST; turn++) {
                Block best = best();
                if (best == tip) {
                    break;
                }
                int fork = layWay(best);
                if (moved || fork < tip.height) {
                    replay(fork);
                }
                moved = true;
                int fault = 0;
                int height = fork;
                while (fault == 0 && height < best.height) {
                    height++;
                    fault = coins.judge(way[height], scripts);
                }
                if (fault == 0) {
                    move(fork, best);
                    return code;
                }
                code = way[height] == block ? fault : FAULT_BEFORE;
                condemn(way[height]);
            }
            if (moved) {
                replay(tip.height);
            }
            return code;
        }

        private Block best() {
            Block best = tip;
            for (int i = 0; i < many; i++) {
                Block one = known[i];
                int more = one.bad ? -1 : compare(one.work, best.work);
                if (more > 0) {
                    best = one;
                }
            }
            return best;
        }

        /** Lays the way to a block, down to where it leaves the chain of the tip, and tells that height. */
        private int layWay(Block block) {
            Block one = block;
            for (int i = 0; i < MOST && one.parent != null && at(one.height) != one; i++) {
                if (one.height >= 0 && one.height < MOST) {
                    way[one.height] = one;
                }
                one = one.parent;
            }
            return one.height;
        }

        /** Brings the coins to what they are behind a height of the chain of the tip. */
        private void replay(int height) {
            coins.clear();
            for (int i = 1; i <= height && i < MOST; i++) {
                coins.apply(line[i]);
            }
        }

        private void move(int fork, Block best) {
            for (int i = fork + 1; i <= tip.height && i < MOST; i++) {
                left[leftMany] = line[i];
                leftMany++;
            }
            for (int i = fork + 1; i <= best.height && i < MOST; i++) {
                line[i] = way[i];
            }
            tip = best;
        }

        /** A parent stands before its children among the known ones, so one pass finds all behind it. */
        private void condemn(Block block) {
            block.bad = true;
            bad = 0;
            for (int i = 0; i < many; i++) {
                Block one = known[i];
                if (one.parent != null && one.parent.bad) {
                    one.bad = true;
                }
                if (one.bad) {
                    bad++;
                }
            }
        }

        private long median(Block block) {
            int n = 0;
            Block one = block;
            while (one != null && n < times.length) {
                int place = n;
                while (place > 0 && times[place - 1] > one.time) {
                    times[place] = times[place - 1];
                    place--;
                }
                times[place] = one.time;
                n++;
                one = one.parent;
            }
            return times[n / 2 < times.length ? n / 2 : 0];
        }

        private int bitsBehind(Block parent) {
            if ((parent.height + 1) % SPAN != 0) {
                return parent.bits;
            }
            Block first = parent;
            for (int i = 0; i < SPAN - 1 && first.parent != null; i++) {
                first = first.parent;
            }
            long time = Math.max(LEAST_TIME, Math.min(MOST_TIME, parent.time - first.time));
            setTarget(target, parent.bits);
            long carry = 0;
            for (int i = 0; i < 9; i++) {
                carry += (target[i] & LOW) * time;
                target[i] = (int) carry;
                carry >>>= 32;
            }
            carry = 0;
            for (int i = 8; i >= 0; i--) {
                carry = carry << 32 | target[i] & LOW;
                target[i] = (int) (carry / DUE_TIME);
                carry %= DUE_TIME;
            }
            setTarget(limit, FIRST_BITS);
            return compact(compare(target, limit) > 0 ? limit : target);
        }

        private static int compact(int[] number) {
            int size = 4 * number.length;
            while (size > 0 && byteOf(number, size - 1) == 0) {
                size--;
            }
            int high = byteOf(number, size - 1) << 16 | byteOf(number, size - 2) << 8 | byteOf(number, size - 3);
            if (high >= 0x800000) {
                high >>= 8;
                size++;
            }
            return size << 24 | high;
        }

        private static int byteOf(int[] number, int place) {
            return place < 0 || place / 4 >= number.length ? 0 : number[place / 4] >>> 8 * (place % 4) & 255;
        }

        private static void setTarget(int[] to, int bits) {
            int size = bits >>> 24;
            int high = bits & 0x7fffff;
            Arrays.fill(to, 0);
            for (int i = 0; i < 3; i++) {
                int place = size - 3 + i;
                if (place >= 0 && place / 4 < to.length) {
                    to[place / 4] |= (high >>> 8 * i & 255) << 8 * (place % 4);
                }
            }
        }

        private static int compare(int[] a, int[] b) {
            for (int i = Math.min(a.length, b.length) - 1; i >= 0; i--) {
                if (a[i] != b[i]) {
                    return (a[i] & LOW) < (b[i] & LOW) ? -1 : 1;
                }
            }
            return 0;
        }

        /** Whether a name is above a target; its last byte is the highest one. */
        private static boolean isAbove(byte[] name, int[] target) {
            for (int i = NAME - 1; i >= 0; i--) {
                int one = i < name.length ? name[i] & 255 : 0;
                int other = byteOf(target, i);
                if (one != other) {
                    return one > other;
                }
            }
            return false;
        }

        /** Divides 2^256 by the target and 1, bit by bit from the highest, and adds the parent's work. */
        private void setWork(Block block) {
            setTarget(target, block.bits);
            for (int i = 0, carry = 1; i < 9 && carry == 1; i++) {
                target[i]++;
                carry = target[i] == 0 ? 1 : 0;
            }
            Arrays.fill(rest, 0);
            Arrays.fill(block.work, 0);
            for (int bit = 256; bit >= 0; bit--) {
                int carry = bit == 256 ? 1 : 0;
                for (int i = 0; i < 9; i++) {
                    int next = rest[i] >>> 31;
                    rest[i] = rest[i] << 1 | carry;
                    carry = next;
                }
                if (compare(rest, target) >= 0) {
                    long debt = 0;
                    for (int i = 0; i < 9; i++) {
                        debt += (rest[i] & LOW) - (target[i] & LOW);
                        rest[i] = (int) debt;
                        debt >>= 32;
                    }
                    if (bit < 256) {
                        block.work[bit / 32] |= 1 << bit % 32;
                    }
                }
            }
            long carry = 0;
            for (int i = 0; i < 8; i++) {
                carry += (block.work[i] & LOW) + (block.parent == null ? 0 : block.parent.work[i] & LOW);
                block.work[i] = (int) carry;
                carry >>>= 32;
            }
        }
    }

    /** The coins behind a block: each is an output of the transaction that made it. */
    private static final class Coins {
        private static final int MOST = 1500;
        private static final int MOST_SPENT = 3000;
        private static final int RIPE = 8;
        private static final int SIGNATURES = 24;
        private static final int HALVING = 32;
        private static final long FIRST_SUBSIDY = 5000000000L;

        private final Tx[] makers = new Tx[MOST];
        private final int[] numbers = new int[MOST];
        private final int[] heights = new int[MOST];
        int many;
        private int spent;
        long sum;
        /** The coins that the inputs of the transaction in hand spend. */
        private final Tx[] takenMakers = new Tx[Tx.MOST];
        private final int[] takenNumbers = new int[Tx.MOST];
        private long takenSum;

        void clear() {
            many = 0;
            spent = 0;
            sum = 0;
        }

        /** The place of a key's coin; -1 if there is none. */
        int find(byte[] row, int from, int index) {
            for (int i = 0; i < many; i++) {
                if (numbers[i] == index && Hash.same(makers[i].name, 0, row, from)) {
                    return i;
                }
            }
            return -1;
        }

        Tx maker(int place) {
            return place < 0 || place >= many ? null : makers[place];
        }

        long worth(int place) {
            return place < 0 || place >= many ? 0 : makers[place].worth(numbers[place]);
        }

        /** Whether it is too young to be spent at a height. */
        boolean isUnripe(int place, int height) {
            return place >= 0 && place < many && height - heights[place] < RIPE && makers[place].hasRootInput;
        }

        /** Puts a block behind the chain if it is right there; else tells its fault, with the coins half changed. */
        int judge(Block block, Scripts scripts) {
            long gain = 0;
            scripts.begin(SIGNATURES);
            for (int i = 0; i < block.txs.length; i++) {
                Tx tx = block.txs[i];
                int fault = i == 0 ? 0 : take(tx, block.height);
                if (fault == 0 && i > 0 && !scripts.pass(tx, takenMakers, takenNumbers)) {
                    fault = 34;
                }
                if (fault == 0) {
                    fault = faultOfMaking(tx, i == 0 ? 0 : tx.inputs.length);
                }
                if (fault != 0) {
                    return fault;
                }
                if (i > 0) {
                    gain += takenSum - tx.sum;
                }
                change(tx, block.height, i == 0);
            }
            int halvings = block.height / HALVING;
            long subsidy = halvings > 62 ? 0 : FIRST_SUBSIDY >> halvings;
            return block.txs.length > 0 && block.txs[0].sum > subsidy + gain ? 35 : 0;
        }

        /** Puts a block that is right behind the chain. */
        void apply(Block block) {
            for (int i = 0; i < block.txs.length; i++) {
                change(block.txs[i], block.height, i == 0);
            }
        }

        private int take(Tx tx, int height) {
            boolean unripe = false;
            takenSum = 0;
            for (int i = 0; i < tx.inputs.length && i < Tx.MOST; i++) {
                int place = find(tx.row, tx.inputs[i], tx.index(i));
                if (place < 0) {
                    return 31;
                }
                unripe |= isUnripe(place, height);
                takenMakers[i] = makers[place];
                takenNumbers[i] = numbers[place];
                takenSum += worth(place);
            }
            return unripe ? 32 : tx.sum > takenSum ? 33 : 0;
        }

        private int faultOfMaking(Tx tx, int spending) {
            for (int i = 0; i < tx.outputs.length; i++) {
                if (find(tx.name, 0, i) >= 0) {
                    return 36;
                }
            }
            return many - spending + tx.outputs.length > MOST || spent + spending > MOST_SPENT ? 37 : 0;
        }

        private void change(Tx tx, int height, boolean first) {
            for (int i = 0; !first && i < tx.inputs.length; i++) {
                int place = find(tx.row, tx.inputs[i], tx.index(i));
                if (place >= 0) {
                    sum -= makers[place].worth(numbers[place]);
                    spent++;
                    many--;
                    makers[place] = makers[many];
                    numbers[place] = numbers[many];
                    heights[place] = heights[many];
                }
            }
            for (int i = 0; i < tx.outputs.length && many < MOST; i++) {
                makers[many] = tx;
                numbers[many] = i;
                heights[many] = height;
                many++;
                sum += tx.worth(i);
            }
        }
    }

    /** The transactions that wait, in the order in which they came. */
    private static final class Pool {
        private static final int MOST = 40;
        private static final int SIGNATURES = 8;

        private final Coins coins;
        private final Scripts scripts;
        private final Tx[] txs = new Tx[MOST + 1];
        private final long[] gains = new long[MOST + 1];
        int many;
        private final Tx[] before = new Tx[MOST + 1];
        private final boolean[] kin = new boolean[MOST + 1];
        private final Tx[] takenMakers = new Tx[Tx.MOST];
        private final int[] takenNumbers = new int[Tx.MOST];
        private long takenSum;

        Pool(Coins coins, Scripts scripts) {
            this.coins = coins;
            this.scripts = scripts;
        }

        long gain() {
            long all = 0;
            for (int i = 0; i < many; i++) {
                all += gains[i];
            }
            return all;
        }

        Tx find(byte[] row, int from) {
            for (int i = 0; i < many; i++) {
                if (Hash.same(txs[i].name, 0, row, from)) {
                    return txs[i];
                }
            }
            return null;
        }

        /** Takes a transaction in, if nothing is against it for a block of that height; tells its code. */
        int offer(Tx tx, int height, boolean sent) {
            int code = tx.fault();
            if (code == 0) {
                code = tx.hasRootInput ? 5 : clash(tx);
            }
            if (code == 0) {
                code = take(tx, height);
            }
            if (code == 0 && sent) {
                scripts.begin(SIGNATURES);
                code = scripts.pass(tx, takenMakers, takenNumbers) ? 0 : 10;
            }
            if (code == 0) {
                code = knot(tx);
            }
            if (code != 0 || many > MOST) {
                return code;
            }
            txs[many] = tx;
            gains[many] = takenSum - tx.sum;
            many++;
            return many > MOST && dropLeast(tx) ? 11 : 0;
        }

        /** With a new tip: what the blocks that were left had, and then what waited, comes again. */
        void makeAnew(Block[] left, int leftMany, int height) {
            int waited = many;
            System.arraycopy(txs, 0, before, 0, waited);
            many = 0;
            for (int i = 0; i < leftMany && i < left.length; i++) {
                for (int j = 1; j < left[i].txs.length; j++) {
                    offer(left[i].txs[j], height, false);
                }
            }
            for (int i = 0; i < waited; i++) {
                offer(before[i], height, false);
            }
        }

        private int clash(Tx tx) {
            if (find(tx.name, 0) != null) {
                return 12;
            }
            for (int i = 0; i < many; i++) {
                if (tx.sharesKeyWith(txs[i])) {
                    return 13;
                }
            }
            return 0;
        }

        private int take(Tx tx, int height) {
            boolean unripe = false;
            takenSum = 0;
            for (int i = 0; i < tx.inputs.length && i < Tx.MOST; i++) {
                int index = tx.index(i);
                int place = coins.find(tx.row, tx.inputs[i], index);
                Tx maker = place >= 0 ? coins.maker(place) : find(tx.row, tx.inputs[i]);
                if (maker == null || index < 0 || index >= maker.outputs.length) {
                    return 7;
                }
                unripe |= coins.isUnripe(place, height);
                takenMakers[i] = maker;
                takenNumbers[i] = index;
                takenSum += maker.worth(index);
            }
            return unripe ? 8 : tx.sum > takenSum ? 9 : 0;
        }

        private int knot(Tx tx) {
            for (int i = 0; i < many; i++) {
                if (tx.missesOutputOf(txs[i]) || txs[i].missesOutputOf(tx)) {
                    return 15;
                }
            }
            markKin(tx);
            boolean tied = tx.spendsOf(tx);
            for (int i = 0; i < many; i++) {
                tied |= kin[i] && tx.spendsOf(txs[i]);
            }
            return tied ? 14 : 0;
        }

        /** Marks those in the pool that are of a transaction's family. */
        private void markKin(Tx head) {
            for (int i = 0; i < many; i++) {
                kin[i] = txs[i] == head || txs[i].spendsOf(head);
            }
            boolean grows = true;
            for (int turn = 0; turn < many && grows; turn++) {
                grows = false;
                for (int i = 0; i < many; i++) {
                    for (int j = 0; j < many && !kin[i]; j++) {
                        if (kin[j] && txs[i].spendsOf(txs[j])) {
                            kin[i] = true;
                            grows = true;
                        }
                    }
                }
            }
        }

        /** Drops the family that pays least for its bytes; tells whether the newest one is of it. */
        private boolean dropLeast(Tx newest) {
            Tx least = newest;
            long leastGain = 0;
            long leastSize = 0;
            for (int i = 0; i < many; i++) {
                markKin(txs[i]);
                long gain = 0;
                long size = 0;
                for (int j = 0; j < many; j++) {
                    gain += kin[j] ? gains[j] : 0;
                    size += kin[j] ? txs[j].size : 0;
                }
                if (i == 0 || !isDearer(gain, size, leastGain, leastSize)) {
                    least = txs[i];
                    leastGain = gain;
                    leastSize = size;
                }
            }
            markKin(least);
            int kept = 0;
            boolean dropped = false;
            for (int i = 0; i < many; i++) {
                if (kin[i]) {
                    dropped |= txs[i] == newest;
                } else {
                    txs[kept] = txs[i];
                    gains[kept] = gains[i];
                    kept++;
                }
            }
            many = kept;
            return dropped;
        }

        /** Whole parts first, then what is left of them: the products of the whole would not have room. */
        private static boolean isDearer(long gain, long size, long otherGain, long otherSize) {
            if (size <= 0 || otherSize <= 0) {
                return false;
            }
            long whole = gain / size;
            long otherWhole = otherGain / otherSize;
            if (whole != otherWhole) {
                return whole > otherWhole;
            }
            return gain % size * otherSize > otherGain % otherSize * size;
        }
    }

    /** Runs the scripts of a transaction, and looks at the signatures that they ask for. */
    private static final class Scripts {
        private static final int ROOM = 2400;
        private static final int MOST_TURNS = 200;
        private static final int OTHER_KINDS = 31;
        private static final int NO_OUTPUTS = 2;
        private static final int ONE_OUTPUT = 3;
        private static final int ONE_INPUT = 128;

        private final Hash hash;
        private final Machine machine;
        private final Signature signature = new Signature();
        private final byte[] signed = new byte[ROOM];
        private int signedSize;
        private final byte[] name = new byte[NAME];
        private int asked;
        private int most;

        Scripts(Hash hash) {
            this.hash = hash;
            this.machine = new Machine(hash);
        }

        /** From here on so many signatures may be asked for. */
        void begin(int most) {
            this.most = most;
            asked = 0;
        }

        /** Whether all scripts hold; each input spends the output of a maker with a number. */
        boolean pass(Tx tx, Tx[] makers, int[] numbers) {
            for (int i = 0; i < tx.inputs.length; i++) {
                if (i >= makers.length || i >= numbers.length || makers[i] == null) {
                    return false;
                }
                Tx maker = makers[i];
                int lock = maker.outputScript(numbers[i]);
                machine.clear();
                machine.open(tx.row, tx.inputScript(i), tx.scriptSize(tx.inputScript(i)));
                for (int turn = 0; turn < MOST_TURNS && machine.run() != Machine.FAULT; turn++) {
                    if (machine.status == Machine.ASKS) {
                        asked++;
                        if (asked > most) {
                            return false;
                        }
                        boolean fits = signature.setSignature(machine.signature(), machine.signatureSize())
                                && signature.setKey(machine.publicKey(), machine.publicKeySize());
                        if (fits) {
                            write(tx, i, maker, lock, signature.kind);
                            hash.name(signed, 0, signedSize, name);
                            signature.setBase();
                            fits = signature.holds(name, signedSize == 0);
                        }
                        machine.answer(fits);
                    } else if (machine.isLast) {
                        break;
                    } else {
                        machine.openLast(maker.row, lock, maker.scriptSize(lock));
                    }
                }
                if (!machine.isHappy()) {
                    return false;
                }
            }
            return true;
        }

        /** Writes what is signed; nothing if there is no output that stands for the input. */
        private void write(Tx tx, int input, Tx maker, int lock, int kind) {
            int other = kind & OTHER_KINDS;
            boolean alone = kind >= ONE_INPUT;
            boolean bare = other == NO_OUTPUTS || other == ONE_OUTPUT;
            signedSize = 0;
            if (other == ONE_OUTPUT && input >= tx.outputs.length) {
                return;
            }
            put(tx.row, tx.from, 4);
            fill(1, alone ? 1 : tx.inputs.length);
            for (int i = 0; i < tx.inputs.length; i++) {
                int script = tx.inputScript(i);
                if (i == input) {
                    put(tx.row, tx.inputs[i], 36);
                    fill(1, maker.scriptSize(lock));
                    put(maker.row, lock, maker.scriptSize(lock));
                    put(tx.row, script + tx.scriptSize(script), 4);
                } else if (!alone) {
                    put(tx.row, tx.inputs[i], 36);
                    fill(1, 0);
                    if (bare) {
                        fill(4, 0);
                    } else {
                        put(tx.row, script + tx.scriptSize(script), 4);
                    }
                }
            }
            int outputs = other == NO_OUTPUTS ? 0 : other == ONE_OUTPUT ? input + 1 : tx.outputs.length;
            fill(1, outputs);
            for (int i = 0; i < outputs && i < tx.outputs.length; i++) {
                if (other == ONE_OUTPUT && i < input) {
                    fill(8, 255);
                    fill(1, 0);
                } else {
                    put(tx.row, tx.outputs[i], 9 + tx.scriptSize(tx.outputScript(i)));
                }
            }
            put(tx.row, tx.from + tx.size - 4, 4);
            fill(1, kind);
            fill(3, 0);
        }

        private void put(byte[] row, int from, int n) {
            if (from < 0 || n < 0 || from + n > row.length || signedSize + n > ROOM) {
                return;
            }
            System.arraycopy(row, from, signed, signedSize, n);
            signedSize += n;
        }

        private void fill(int n, int one) {
            for (int i = 0; i < n && signedSize < ROOM; i++) {
                signed[signedSize] = (byte) one;
                signedSize++;
            }
        }
    }

    /** A stack of elements. Places count from the bottom, from 0 on; operands from the top, from 1 on. */
    private static final class Stack {
        static final int WIDEST = 120;
        private static final int ROOM = 70;

        final byte[][] rows = new byte[ROOM][WIDEST];
        final int[] sizes = new int[ROOM];
        int height;

        void put(byte[] from, int at, int size) {
            if (height >= ROOM || at < 0 || size < 0 || size > WIDEST || at + size > from.length) {
                return;
            }
            System.arraycopy(from, at, rows[height], 0, size);
            sizes[height] = size;
            height++;
        }

        void putCopy(Stack other, int place) {
            if (height >= ROOM || place < 0 || place >= other.height) {
                return;
            }
            System.arraycopy(other.rows[place], 0, rows[height], 0, WIDEST);
            sizes[height] = other.sizes[place];
            height++;
        }

        /** As short as can be: one more byte only where the highest bit is needed for the sign. */
        void putNumber(long number) {
            if (height >= ROOM) {
                return;
            }
            byte[] row = rows[height];
            long rest = Math.abs(number);
            int size = 0;
            int high = 0;
            while (rest > 0 && size < 8) {
                high = (int) rest & 255;
                row[size] = (byte) high;
                size++;
                rest >>>= 8;
            }
            if (high >= 128) {
                row[size] = (byte) (number < 0 ? 128 : 0);
                size++;
            } else if (number < 0 && size > 0) {
                row[size - 1] = (byte) (high | 128);
            }
            sizes[height] = size;
            height++;
        }

        boolean isNumber(int operand) {
            return operand >= 1 && operand <= height && sizes[height - operand] <= 4;
        }

        long number(int operand) {
            if (operand < 1 || operand > height) {
                return 0;
            }
            byte[] row = rows[height - operand];
            int size = sizes[height - operand];
            long number = 0;
            for (int i = 0; i < size && i < 8; i++) {
                int one = i == size - 1 ? row[i] & 127 : row[i] & 255;
                number |= (long) one << 8 * i;
            }
            return size > 0 && row[size - 1] < 0 ? -number : number;
        }

        boolean isTrue(int operand) {
            if (operand < 1 || operand > height) {
                return false;
            }
            byte[] row = rows[height - operand];
            int size = sizes[height - operand];
            for (int i = 0; i < size; i++) {
                if (row[i] != 0) {
                    return i < size - 1 || row[i] != -128;
                }
            }
            return false;
        }

        boolean isTopTwice() {
            if (height < 2 || sizes[height - 1] != sizes[height - 2]) {
                return false;
            }
            for (int i = 0; i < sizes[height - 1]; i++) {
                if (rows[height - 1][i] != rows[height - 2][i]) {
                    return false;
                }
            }
            return true;
        }

        void drop(int n) {
            height = Math.max(0, height - n);
        }

        /** Moves the element at a place to the top. */
        void lift(int place) {
            if (place < 0 || place >= height) {
                return;
            }
            byte[] row = rows[place];
            int size = sizes[place];
            for (int i = place; i < height - 1; i++) {
                rows[i] = rows[i + 1];
                sizes[i] = sizes[i + 1];
            }
            rows[height - 1] = row;
            sizes[height - 1] = size;
        }
    }

    /** Runs one script after another; where a signature is asked for it stops till it is answered. */
    private static final class Machine {
        static final int GOES = 0;
        static final int DONE = 1;
        static final int FAULT = 2;
        static final int ASKS = 3;
        private static final int LONGEST = Tx.LONGEST_SCRIPT;
        private static final int MOST_ELEMENTS = 60;
        private static final int MOST_OPERATIONS = 100;
        private static final int MOST_KEYS = 8;
        private static final int FREE_CODE = 96;
        /** The codes that only put elements elsewhere: how many they take, how many they put, and which. */
        private static final int[] MOVES = {
            109, 2, 0,
            110, 2, 4, 1, 2, 1, 2,
            111, 3, 6, 1, 2, 3, 1, 2, 3,
            112, 4, 6, 1, 2, 3, 4, 1, 2,
            113, 6, 6, 3, 4, 5, 6, 1, 2,
            114, 4, 4, 3, 4, 1, 2,
            117, 1, 0,
            118, 1, 2, 1, 1,
            119, 2, 1, 2,
            120, 2, 3, 1, 2, 1,
            123, 3, 3, 2, 3, 1,
            124, 2, 2, 2, 1,
            125, 2, 3, 2, 1, 2};

        private final Hash hash;
        private final Stack stack = new Stack();
        private final Stack side = new Stack();
        private final Stack spare = new Stack();
        private final byte[] made = new byte[NAME];
        private byte[] script = made;
        private int at;
        private int end;
        boolean isLast;
        int status;
        private int operations;
        /** Of each 99 or 100 that waits for its 104, whether what follows is done; and how many are not. */
        private final boolean[] parts = new boolean[LONGEST];
        private int depth;
        private int closed;
        /** The signatures that are left and the place of the last one, likewise the keys. */
        private int signatures;
        private int signatureAt;
        private int keys;
        private int keyAt;
        private int operands;
        private boolean mustFit;

        Machine(Hash hash) {
            this.hash = hash;
        }

        void clear() {
            stack.height = 0;
            isLast = false;
        }

        void openLast(byte[] row, int from, int size) {
            open(row, from, size);
            isLast = true;
        }

        void open(byte[] row, int from, int size) {
            side.height = 0;
            operations = 0;
            depth = 0;
            closed = 0;
            script = row;
            at = from;
            end = from + size;
            status = from < 0 || size < 0 || end > row.length ? FAULT : GOES;
        }

        boolean isHappy() {
            return status == DONE && isLast && stack.isTrue(1);
        }

        /** Goes on to the end of the script, a fault, or a signature that is asked for. */
        int run() {
            for (int i = 0; i < LONGEST && status == GOES && at < end && at < script.length; i++) {
                int code = script[at] & 255;
                at++;
                operations += code > FREE_CODE ? 1 : 0;
                if (operations > MOST_OPERATIONS) {
                    status = FAULT;
                } else if (code <= 77) {
                    push(code);
                } else if (code == 99 || code == 100 || code == 103 || code == 104) {
                    part(code);
                } else if (closed > 0) {
                    continue;
                } else if (code <= 97) {
                    small(code);
                } else if (code <= 108) {
                    pass(code);
                } else if (code == 115 || code == 116 || code == 121 || code == 122 || code == 130) {
                    arrange(code);
                } else if (code <= 130) {
                    move(code);
                } else if (code <= 136) {
                    compare(code);
                } else if (code <= 165) {
                    calculate(code);
                } else if (code <= 170) {
                    digest(code);
                } else {
                    ask(code);
                }
                if (status == ASKS && signatures == 0) {
                    finish(true);
                }
                if (stack.height + side.height > MOST_ELEMENTS) {
                    status = FAULT;
                }
            }
            if (status == GOES) {
                status = depth == 0 ? DONE : FAULT;
            }
            return status;
        }

        /** Whether the stack has so many; it is a fault if not. */
        private boolean has(int n) {
            if (stack.height < n) {
                status = FAULT;
                return false;
            }
            return true;
        }

        private void push(int code) {
            int wide = code == 76 ? 1 : code == 77 ? 2 : 0;
            int size = code;
            if (wide > 0 && at + wide <= end && at + wide <= script.length) {
                size = script[at] & 255;
                size |= wide == 2 ? (script[at + 1] & 255) << 8 : 0;
            }
            at += wide;
            if (size > Stack.WIDEST || at + size > end) {
                status = FAULT;
                return;
            }
            if (closed == 0) {
                stack.put(script, at, size);
            }
            at += size;
        }

        private void part(int code) {
            if (code == 99 || code == 100) {
                boolean goes = false;
                if (closed == 0) {
                    if (!has(1)) {
                        return;
                    }
                    goes = stack.isTrue(1) == (code == 99);
                    stack.drop(1);
                }
                if (depth < parts.length) {
                    parts[depth] = goes;
                    depth++;
                    closed += goes ? 0 : 1;
                }
            } else if (depth == 0) {
                status = FAULT;
            } else if (code == 103) {
                parts[depth - 1] = !parts[depth - 1];
                closed += parts[depth - 1] ? -1 : 1;
            } else {
                depth--;
                closed -= parts[depth] ? 0 : 1;
            }
        }

        private void small(int code) {
            if (code == 79) {
                stack.putNumber(-1);
            } else if (code >= 81 && code <= 96) {
                stack.putNumber(code - 80);
            } else if (code != 97) {
                status = FAULT;
            }
        }

        private void pass(int code) {
            if (code == 105 && has(1)) {
                status = stack.isTrue(1) ? GOES : FAULT;
                stack.drop(1);
            } else if (code == 107 && has(1)) {
                side.putCopy(stack, stack.height - 1);
                stack.drop(1);
            } else if (code == 108 && side.height > 0) {
                stack.putCopy(side, side.height - 1);
                side.drop(1);
            } else {
                status = FAULT;
            }
        }

        private void arrange(int code) {
            if (code == 115 && has(1)) {
                if (stack.isTrue(1)) {
                    stack.putCopy(stack, stack.height - 1);
                }
            } else if (code == 116) {
                stack.putNumber(stack.height);
            } else if ((code == 121 || code == 122) && stack.isNumber(1)) {
                long n = stack.number(1);
                stack.drop(1);
                if (n < 0 || n >= stack.height) {
                    status = FAULT;
                } else if (code == 121) {
                    stack.putCopy(stack, stack.height - 1 - (int) n);
                } else {
                    stack.lift(stack.height - 1 - (int) n);
                }
            } else if (code == 130 && has(1)) {
                stack.putNumber(stack.sizes[stack.height - 1]);
            } else {
                status = FAULT;
            }
        }

        private void move(int code) {
            int row = 0;
            while (row + 2 < MOVES.length && MOVES[row] != code) {
                row += 3 + MOVES[row + 2];
            }
            if (row + 2 >= MOVES.length || !has(MOVES[row + 1])) {
                status = FAULT;
                return;
            }
            int taken = MOVES[row + 1];
            int put = MOVES[row + 2];
            spare.height = 0;
            for (int i = taken; i > 0; i--) {
                spare.putCopy(stack, stack.height - i);
            }
            stack.drop(taken);
            for (int i = row + 3; i < row + 3 + put && i < MOVES.length; i++) {
                stack.putCopy(spare, MOVES[i] - 1);
            }
        }

        private void compare(int code) {
            if (code < 135 || !has(2)) {
                status = FAULT;
                return;
            }
            boolean alike = stack.isTopTwice();
            stack.drop(2);
            if (code == 135) {
                stack.putNumber(alike ? 1 : 0);
            } else if (!alike) {
                status = FAULT;
            }
        }

        private void calculate(int code) {
            int n = code <= 146 ? 1 : code == 165 ? 3 : 2;
            if (code < 139 || code == 141 || code == 142 || code > 148 && code < 154 || !has(n)) {
                status = FAULT;
                return;
            }
            for (int i = 1; i <= n; i++) {
                if (!stack.isNumber(i)) {
                    status = FAULT;
                    return;
                }
            }
            long c = stack.number(1);
            long b = stack.number(2);
            long a = stack.number(3);
            stack.drop(n);
            if (n == 1) {
                stack.putNumber(ofOne(code, c));
            } else if (n == 3) {
                stack.putNumber(b <= a && a < c ? 1 : 0);
            } else if (code != 157) {
                stack.putNumber(ofTwo(code, b, c));
            } else if (b != c) {
                status = FAULT;
            }
        }

        private static long ofOne(int code, long a) {
            switch (code) {
                case 139:
                    return a + 1;
                case 140:
                    return a - 1;
                case 143:
                    return -a;
                case 144:
                    return Math.abs(a);
                case 145:
                    return a == 0 ? 1 : 0;
                default:
                    return a != 0 ? 1 : 0;
            }
        }

        private static long ofTwo(int code, long a, long b) {
            switch (code) {
                case 147:
                    return a + b;
                case 148:
                    return a - b;
                case 154:
                    return a != 0 && b != 0 ? 1 : 0;
                case 155:
                    return a != 0 || b != 0 ? 1 : 0;
                case 156:
                    return a == b ? 1 : 0;
                case 158:
                    return a != b ? 1 : 0;
                case 159:
                    return a < b ? 1 : 0;
                case 160:
                    return a > b ? 1 : 0;
                case 161:
                    return a <= b ? 1 : 0;
                case 162:
                    return a >= b ? 1 : 0;
                case 163:
                    return Math.min(a, b);
                default:
                    return Math.max(a, b);
            }
        }

        private void digest(int code) {
            if (code == 167 || !has(1)) {
                status = FAULT;
                return;
            }
            int top = stack.height - 1;
            hash.take(stack.rows[top], 0, stack.sizes[top]);
            stack.drop(1);
            if (code != 166) {
                hash.digest(made);
            }
            if (code == 169 || code == 170) {
                hash.take(made, 0, NAME);
            }
            if (code == 170) {
                hash.digest(made);
            }
            if (code == 166 || code == 169) {
                hash.ripe(made);
            }
            stack.put(made, 0, code == 166 || code == 169 ? 20 : NAME);
        }

        private void ask(int code) {
            if (code < 172 || code > 175) {
                status = FAULT;
                return;
            }
            mustFit = code == 173 || code == 175;
            if (code <= 173) {
                if (has(2)) {
                    keys = 1;
                    signatures = 1;
                    keyAt = stack.height - 1;
                    signatureAt = stack.height - 2;
                    operands = 2;
                    status = ASKS;
                }
                return;
            }
            if (!stack.isNumber(1) || stack.number(1) < 0 || stack.number(1) > MOST_KEYS) {
                status = FAULT;
                return;
            }
            keys = (int) stack.number(1);
            operations += keys;
            if (operations > MOST_OPERATIONS || !has(2 + keys) || !stack.isNumber(2 + keys)
                    || stack.number(2 + keys) < 0 || stack.number(2 + keys) > keys) {
                status = FAULT;
                return;
            }
            signatures = (int) stack.number(2 + keys);
            operands = 3 + keys + signatures;
            if (!has(operands)) {
                return;
            }
            keyAt = stack.height - 2;
            signatureAt = stack.height - 3 - keys;
            status = ASKS;
        }

        /** Whether the pair that was asked for fits; with it the next pair is due, or it is told what came out. */
        void answer(boolean fits) {
            if (status != ASKS) {
                return;
            }
            if (fits) {
                signatures--;
                signatureAt--;
            }
            keys--;
            keyAt--;
            if (signatures == 0 || signatures > keys) {
                finish(signatures == 0);
            }
        }

        private void finish(boolean fit) {
            status = GOES;
            stack.drop(operands);
            if (!mustFit) {
                stack.putNumber(fit ? 1 : 0);
            } else if (!fit) {
                status = FAULT;
            }
        }

        byte[] signature() {
            return signatureAt < 0 || signatureAt >= stack.height ? made : stack.rows[signatureAt];
        }

        int signatureSize() {
            return signatureAt < 0 || signatureAt >= stack.height ? 0 : stack.sizes[signatureAt];
        }

        byte[] publicKey() {
            return keyAt < 0 || keyAt >= stack.height ? made : stack.rows[keyAt];
        }

        int publicKeySize() {
            return keyAt < 0 || keyAt >= stack.height ? 0 : stack.sizes[keyAt];
        }
    }

    /** Whether a signature fits a key, for the name of what is signed. Numbers are eight words, the lowest first. */
    private static final class Signature {
        private static final int LONGEST = 33;
        private static final int ODDS = 8;
        private static final int DIGITS = 257;
        private static final long LOW = 0xffffffffL;
        private static final int[] PRIME = {0xfffffc2f, -2, -1, -1, -1, -1, -1, -1};
        private static final int[] ORDER = {
            0xd0364141, 0xbfd25e8c, 0xaf48a03b, 0xbaaedce6, -2, -1, -1, -1};
        /** What 2^256 leaves by the order. */
        private static final int[] OVER = {0x2fc9bebf, 0x402da173, 0x50b75fc4, 0x45512319, 1};
        private static final int[] BASE_X = {
            0x16f81798, 0x59f2815b, 0x2dce28d9, 0x029bfcdb, 0xce870b07, 0x55a06295, 0xf9dcbbac, 0x79be667e};
        private static final int[] BASE_Y = {
            0xfb10d4b8, 0x9c47d08f, 0xa6855419, 0xfd17b448, 0x0e1108a8, 0x5da4fbfc, 0x26a3c465, 0x483ada77};

        int kind;
        private final int[] r = new int[8];
        private final int[] s = new int[8];
        private final int[] x = new int[8];
        private final int[] y = new int[8];
        private final int[] z = new int[8];
        private final int[] wide = new int[16];
        private final int[] high = new int[8];
        private final int[][] powers = new int[16][8];
        private final long[][] work = new long[16][10];
        private final int[] baseDigits = new int[DIGITS];
        private final int[] keyDigits = new int[DIGITS];
        private final Point[] baseOdds = new Point[ODDS];
        private final Point[] keyOdds = new Point[ODDS];
        private final Point twice = new Point();
        private final Point sum = new Point();
        private boolean hasBase;

        Signature() {
            for (int i = 0; i < ODDS; i++) {
                baseOdds[i] = new Point();
                keyOdds[i] = new Point();
            }
        }

        /** Takes an element as the signature; false if it is none, or none that fits anything. */
        boolean setSignature(byte[] row, int size) {
            if (size < 9 || size > row.length || row[0] != 48 || row[1] != size - 3) {
                return false;
            }
            int first = row[3];
            if (row[2] != 2 || first < 1 || first > LONGEST || 6 + first >= size || row[4 + first] != 2) {
                return false;
            }
            int second = row[5 + first];
            if (second < 1 || second > LONGEST || 7 + first + second != size) {
                return false;
            }
            kind = row[size - 1] & 255;
            return setNumber(r, row, 4, first) && setNumber(s, row, 6 + first, second);
        }

        /** Takes a number of a signature, which is to be 1 or more and below the order. */
        private static boolean setNumber(int[] to, byte[] row, int from, int size) {
            boolean idle = row[from] == 0 && size > 1 && row[from + 1] >= 0;
            if (row[from] < 0 || idle || size == LONGEST && row[from] != 0) {
                return false;
            }
            set(to, row, from, size);
            return !isNothing(to) && isBelow(to, ORDER);
        }

        /** Takes an element as the key; false if it is none. */
        boolean setKey(byte[] row, int size) {
            boolean isShort = size == 33 && row.length >= 33 && (row[0] == 2 || row[0] == 3);
            boolean isLong = size == 65 && row.length >= 65 && row[0] == 4;
            if (!isShort && !isLong) {
                return false;
            }
            Point point = keyOdds[0];
            set(x, row, 1, 32);
            spread(x, point.x);
            if (!isBelow(x, PRIME)) {
                return false;
            }
            long[] square = work[14];
            long[] test = work[15];
            Point.multiply(square, point.x, point.x);
            Point.multiply(square, square, point.x);
            square[0] += 7;
            if (isLong) {
                set(y, row, 33, 32);
                spread(y, point.y);
                if (!isBelow(y, PRIME)) {
                    return false;
                }
            } else {
                Point.root(point.y, square, work);
            }
            Point.multiply(test, point.y, point.y);
            Point.mix(test, test, 1, square, -1);
            if (!Point.normalize(test)) {
                return false;
            }
            if (isShort) {
                Point.normalize(point.y);
                boolean isOdd = (point.y[0] & 1) == 1;
                Point.mix(point.y, point.y, isOdd == (row[0] == 3) ? 1 : -1, square, 0);
            }
            point.unit();
            twice.set(point, false);
            twice.twice(work);
            for (int i = 1; i < ODDS; i++) {
                keyOdds[i].set(keyOdds[i - 1], false);
                keyOdds[i].add(twice, false, work);
            }
            return true;
        }

        /** Makes the odd multiples of the base, once for all. */
        void setBase() {
            if (hasBase) {
                return;
            }
            spread(BASE_X, baseOdds[0].x);
            spread(BASE_Y, baseOdds[0].y);
            baseOdds[0].unit();
            twice.set(baseOdds[0], false);
            twice.twice(work);
            for (int i = 1; i < ODDS; i++) {
                baseOdds[i].set(baseOdds[i - 1], false);
                baseOdds[i].add(twice, false, work);
            }
            hasBase = true;
        }

        /** Whether the signature in hand fits the key in hand for a name, or for the number 1. */
        boolean holds(byte[] name, boolean isOne) {
            set(z, name, 0, isOne ? 0 : NAME);
            z[0] |= isOne ? 1 : 0;
            invert(s);
            multiply(x, z, s);
            multiply(y, r, s);
            setDigits(baseDigits, x);
            setDigits(keyDigits, y);
            sum.isNone = true;
            for (int i = DIGITS - 1; i >= 0; i--) {
                sum.twice(work);
                for (int side = 0; side < 2; side++) {
                    int digit = side == 0 ? baseDigits[i] : keyDigits[i];
                    int place = Math.abs(digit) / 2;
                    if (digit != 0 && place < ODDS) {
                        Point odd = side == 0 ? baseOdds[place] : keyOdds[place];
                        if (!sum.add(odd, digit < 0, work)) {
                            sum.twice(work);
                        }
                    }
                }
            }
            return !sum.isNone && isAtX();
        }

        /** Whether the sum's x leaves r by the order: it is r, or r and the order, where that is below the prime. */
        private boolean isAtX() {
            Point.multiply(work[0], sum.z, sum.z);
            for (int turn = 0; turn < 2; turn++) {
                spread(r, work[1]);
                Point.multiply(work[1], work[1], work[0]);
                Point.mix(work[1], work[1], 1, sum.x, -1);
                if (Point.normalize(work[1])) {
                    return true;
                }
                long carry = 0;
                for (int i = 0; i < 8; i++) {
                    carry += (r[i] & LOW) + (ORDER[i] & LOW);
                    r[i] = (int) carry;
                    carry >>>= 32;
                }
                if (carry != 0 || !isBelow(r, PRIME)) {
                    return false;
                }
            }
            return false;
        }

        private static void set(int[] to, byte[] row, int from, int size) {
            Arrays.fill(to, 0);
            for (int i = 0; i < size && i < NAME; i++) {
                int at = from + size - 1 - i;
                if (at >= 0 && at < row.length) {
                    to[i / 4] |= (row[at] & 255) << 8 * (i % 4);
                }
            }
        }

        private static boolean isNothing(int[] a) {
            int all = 0;
            for (int i = 0; i < a.length; i++) {
                all |= a[i];
            }
            return all == 0;
        }

        private static boolean isBelow(int[] a, int[] b) {
            for (int i = Math.min(a.length, b.length) - 1; i >= 0; i--) {
                if (a[i] != b[i]) {
                    return (a[i] & LOW) < (b[i] & LOW);
                }
            }
            return false;
        }

        /** Brings eight words of 32 bits into ten limbs of 26 bits. */
        private static void spread(int[] from, long[] to) {
            for (int i = 0; i < to.length; i++) {
                int word = 26 * i / 32;
                int shift = 26 * i % 32;
                long low = word < from.length ? (from[word] & LOW) >>> shift : 0;
                long next = word + 1 < from.length ? (from[word + 1] & LOW) << 32 - shift : 0;
                to[i] = (low | next) & Point.MASK;
            }
        }

        /** The product by the order. What is above 2^256 comes back times OVER, till nothing is. */
        private void multiply(int[] to, int[] a, int[] b) {
            Arrays.fill(wide, 0);
            for (int i = 0; i < 8; i++) {
                long carry = 0;
                for (int j = 0; j < 8; j++) {
                    carry += (a[i] & LOW) * (b[j] & LOW) + (wide[i + j] & LOW);
                    wide[i + j] = (int) carry;
                    carry >>>= 32;
                }
                wide[i + 8] = (int) carry;
            }
            boolean isOver = true;
            for (int turn = 0; turn < 8 && isOver; turn++) {
                isOver = false;
                for (int i = 0; i < 8; i++) {
                    high[i] = wide[i + 8];
                    wide[i + 8] = 0;
                    isOver |= high[i] != 0;
                }
                for (int i = 0; i < 8 && isOver; i++) {
                    long carry = 0;
                    for (int j = 0; i + j < 16 && high[i] != 0 && (j < OVER.length || carry != 0); j++) {
                        long over = j < OVER.length ? OVER[j] & LOW : 0;
                        carry += (high[i] & LOW) * over + (wide[i + j] & LOW);
                        wide[i + j] = (int) carry;
                        carry >>>= 32;
                    }
                }
            }
            long debt = 0;
            for (int i = 0; i < 8; i++) {
                debt += (wide[i] & LOW) - (ORDER[i] & LOW);
                to[i] = (int) debt;
                debt >>= 32;
            }
            if (debt != 0) {
                System.arraycopy(wide, 0, to, 0, 8);
            }
        }

        /** The power with the order less 2, four bits of it at a time. */
        private void invert(int[] a) {
            Arrays.fill(powers[0], 0);
            powers[0][0] = 1;
            for (int i = 1; i < 16; i++) {
                multiply(powers[i], powers[i - 1], a);
            }
            System.arraycopy(powers[0], 0, a, 0, 8);
            for (int bit = 252; bit >= 0; bit -= 4) {
                for (int i = 0; i < 4; i++) {
                    multiply(a, a, a);
                }
                int word = bit < 32 ? ORDER[0] - 2 : ORDER[bit / 32];
                multiply(a, a, powers[word >>> bit % 32 & 15]);
            }
        }

        /** Digits, odd from -15 to 15 or 0, whose sum by powers of 2 is the number; few of them are not 0. */
        private static void setDigits(int[] to, int[] number) {
            Arrays.fill(to, 0);
            int carry = 0;
            int bit = 0;
            for (int turn = 0; turn < DIGITS && bit < to.length; turn++) {
                int word = bit / 32;
                long two = word < 8 ? number[word] & LOW : 0;
                two |= word < 7 ? (number[word + 1] & LOW) << 32 : 0;
                int five = (int) (two >>> bit % 32) & 31;
                if ((five & 1) == carry) {
                    bit++;
                } else {
                    five += carry;
                    carry = five >> 4;
                    to[bit] = five - 32 * carry;
                    bit += 5;
                }
            }
        }
    }

    /**
     * A point as x / z^2 and y / z^3. Coordinates are ten limbs of 26 bits, which may be a little too long or below 0:
     * so sums need no carry, and a product has room as long as no limb is above 2^29.
     */
    private static final class Point {
        static final long MASK = 0x3ffffff;
        /** What 2^260 leaves by the prime: FOLD in the lowest limb and SPILL in the next. */
        private static final long FOLD = 15632;
        private static final long SPILL = 1024;
        /** What 2^256 leaves by it. */
        private static final long OVER = 977;
        private static final long OVER_NEXT = 64;
        private static final long TOP = 0x3fffff;
        /** Steps to the power with (prime + 1) / 4: square a row so often, multiply by another, into a third. */
        private static final int[] ROOT = {
            0, 1, 0, 1, 1, 1, 0, 2, 2, 3, 2, 3, 3, 3, 2, 4, 4, 2, 1, 5, 5, 11, 5, 6, 6, 22, 6, 7,
            7, 44, 7, 8, 8, 88, 8, 9, 9, 44, 7, 10, 10, 3, 2, 11, 11, 23, 6, 12, 12, 6, 1, 13};

        final long[] x = new long[10];
        final long[] y = new long[10];
        final long[] z = new long[10];
        boolean isNone = true;

        /** Makes z 1: x and y stand for themselves then. */
        void unit() {
            Arrays.fill(z, 0);
            z[0] = 1;
            isNone = false;
        }

        void set(Point other, boolean minus) {
            for (int i = 0; i < 10; i++) {
                x[i] = other.x[i];
                y[i] = minus ? -other.y[i] : other.y[i];
                z[i] = other.z[i];
            }
            isNone = other.isNone;
        }

        void twice(long[][] work) {
            if (isNone || work.length < 6) {
                return;
            }
            long[] xx = work[0];
            long[] yy = work[1];
            long[] xyy = work[2];
            long[] part = work[3];
            multiply(xx, x, x);
            multiply(yy, y, y);
            multiply(xyy, x, yy);
            multiply(z, y, z);
            mix(z, z, 2, z, 0);
            multiply(part, xx, xx);
            mix(x, part, 9, xyy, -8);
            settle(x);
            mix(part, xyy, 4, x, -1);
            multiply(part, part, xx);
            multiply(yy, yy, yy);
            mix(y, part, 3, yy, -8);
            settle(y);
        }

        /** Adds a point or takes it away; false, with nothing done, if both are the same: it is twice() then. */
        boolean add(Point other, boolean minus, long[][] work) {
            if (other.isNone || work.length < 8) {
                return true;
            }
            if (isNone) {
                set(other, minus);
                return true;
            }
            long[] zz = work[0];
            long[] otherZz = work[1];
            long[] left = work[2];
            long[] across = work[3];
            long[] low = work[4];
            long[] up = work[5];
            multiply(zz, z, z);
            multiply(otherZz, other.z, other.z);
            multiply(left, x, otherZz);
            multiply(across, other.x, zz);
            mix(across, across, 1, left, -1);
            multiply(low, otherZz, other.z);
            multiply(low, low, y);
            multiply(up, zz, z);
            multiply(up, up, other.y);
            mix(up, up, minus ? -1 : 1, low, -1);
            mix(work[6], across, 1, across, 0);
            if (normalize(work[6])) {
                mix(work[7], up, 1, up, 0);
                isNone = !normalize(work[7]);
                return isNone;
            }
            multiply(z, z, other.z);
            multiply(z, z, across);
            multiply(zz, across, across);
            multiply(otherZz, zz, across);
            multiply(left, left, zz);
            multiply(zz, up, up);
            mix(x, zz, 1, otherZz, -1);
            mix(x, x, 1, left, -2);
            settle(x);
            mix(left, left, 1, x, -1);
            multiply(left, left, up);
            multiply(low, low, otherZz);
            mix(y, left, 1, low, -1);
            return true;
        }

        /** The square root by the prime, if there is one. */
        static void root(long[] to, long[] of, long[][] work) {
            if (work.length < 14) {
                return;
            }
            mix(work[0], of, 1, of, 0);
            for (int i = 0; i + 3 < ROOT.length; i += 4) {
                long[] row = work[ROOT[i + 3]];
                mix(row, work[ROOT[i]], 1, of, 0);
                for (int j = 0; j < ROOT[i + 1]; j++) {
                    multiply(row, row, row);
                }
                multiply(row, row, work[ROOT[i + 2]]);
            }
            multiply(to, work[13], work[13]);
            multiply(to, to, to);
        }

        /** So many times a, and so many times b. */
        static void mix(long[] to, long[] a, long often, long[] b, long oftenB) {
            for (int i = 0; i < 10; i++) {
                to[i] = often * a[i] + oftenB * b[i];
            }
        }

        /** Brings the limbs back to 26 bits or hardly more. */
        static void settle(long[] a) {
            for (int i = 0; i < 9; i++) {
                a[i + 1] += a[i] >> 26;
                a[i] &= MASK;
            }
            long over = a[9] >> 26;
            a[9] &= MASK;
            a[0] += over * FOLD;
            a[1] += over * SPILL;
        }

        /** Brings a number to the one way to write it, from 0 to the prime less 1; true if it is 0. */
        static boolean normalize(long[] a) {
            for (int turn = 0; turn < 4; turn++) {
                long over = a[9] >> 22;
                a[9] &= TOP;
                a[0] += over * OVER;
                a[1] += over * OVER_NEXT;
                for (int i = 0; i < 9; i++) {
                    a[i + 1] += a[i] >> 26;
                    a[i] &= MASK;
                }
            }
            long carry = a[0] + OVER >> 26;
            carry = a[1] + OVER_NEXT + carry >> 26;
            for (int i = 2; i < 9; i++) {
                carry = a[i] + carry >> 26;
            }
            if (a[9] + carry > TOP) {
                a[0] += OVER;
                a[1] += OVER_NEXT;
                for (int i = 0; i < 9; i++) {
                    a[i + 1] += a[i] >> 26;
                    a[i] &= MASK;
                }
                a[9] &= TOP;
            }
            long all = a[9];
            for (int i = 0; i < 9; i++) {
                all |= a[i];
            }
            return all == 0;
        }

        /** The product by the prime: the ten high columns first, then the low ones with the high ones folded in. */
        static void multiply(long[] to, long[] a, long[] b) {
            if (to.length < 10 || a.length < 10 || b.length < 10) {
                return;
            }
            long a0 = a[0], a1 = a[1], a2 = a[2], a3 = a[3], a4 = a[4];
            long a5 = a[5], a6 = a[6], a7 = a[7], a8 = a[8], a9 = a[9];
            long b0 = b[0], b1 = b[1], b2 = b[2], b3 = b[3], b4 = b[4];
            long b5 = b[5], b6 = b[6], b7 = b[7], b8 = b[8], b9 = b[9];
            long c = a1 * b9 + a2 * b8 + a3 * b7 + a4 * b6 + a5 * b5 + a6 * b4 + a7 * b3 + a8 * b2 + a9 * b1;
            long h0 = c & MASK;
            c = (c >> 26) + a2 * b9 + a3 * b8 + a4 * b7 + a5 * b6 + a6 * b5 + a7 * b4 + a8 * b3 + a9 * b2;
            long h1 = c & MASK;
            c = (c >> 26) + a3 * b9 + a4 * b8 + a5 * b7 + a6 * b6 + a7 * b5 + a8 * b4 + a9 * b3;
            long h2 = c & MASK;
            c = (c >> 26) + a4 * b9 + a5 * b8 + a6 * b7 + a7 * b6 + a8 * b5 + a9 * b4;
            long h3 = c & MASK;
            c = (c >> 26) + a5 * b9 + a6 * b8 + a7 * b7 + a8 * b6 + a9 * b5;
            long h4 = c & MASK;
            c = (c >> 26) + a6 * b9 + a7 * b8 + a8 * b7 + a9 * b6;
            long h5 = c & MASK;
            c = (c >> 26) + a7 * b9 + a8 * b8 + a9 * b7;
            long h6 = c & MASK;
            c = (c >> 26) + a8 * b9 + a9 * b8;
            long h7 = c & MASK;
            c = (c >> 26) + a9 * b9;
            long h8 = c & MASK;
            long h9 = c >> 26;
            c = a0 * b0 + h0 * FOLD;
            to[0] = c & MASK;
            c = (c >> 26) + a0 * b1 + a1 * b0 + h1 * FOLD + h0 * SPILL;
            to[1] = c & MASK;
            c = (c >> 26) + a0 * b2 + a1 * b1 + a2 * b0 + h2 * FOLD + h1 * SPILL;
            to[2] = c & MASK;
            c = (c >> 26) + a0 * b3 + a1 * b2 + a2 * b1 + a3 * b0 + h3 * FOLD + h2 * SPILL;
            to[3] = c & MASK;
            c = (c >> 26) + a0 * b4 + a1 * b3 + a2 * b2 + a3 * b1 + a4 * b0 + h4 * FOLD + h3 * SPILL;
            to[4] = c & MASK;
            c = (c >> 26) + a0 * b5 + a1 * b4 + a2 * b3 + a3 * b2 + a4 * b1 + a5 * b0
                    + h5 * FOLD + h4 * SPILL;
            to[5] = c & MASK;
            c = (c >> 26) + a0 * b6 + a1 * b5 + a2 * b4 + a3 * b3 + a4 * b2 + a5 * b1 + a6 * b0
                    + h6 * FOLD + h5 * SPILL;
            to[6] = c & MASK;
            c = (c >> 26) + a0 * b7 + a1 * b6 + a2 * b5 + a3 * b4 + a4 * b3 + a5 * b2 + a6 * b1 + a7 * b0
                    + h7 * FOLD + h6 * SPILL;
            to[7] = c & MASK;
            c = (c >> 26) + a0 * b8 + a1 * b7 + a2 * b6 + a3 * b5 + a4 * b4 + a5 * b3 + a6 * b2 + a7 * b1 + a8 * b0
                    + h8 * FOLD + h7 * SPILL;
            to[8] = c & MASK;
            c = (c >> 26) + a0 * b9 + a1 * b8 + a2 * b7 + a3 * b6 + a4 * b5 + a5 * b4 + a6 * b3 + a7 * b2 + a8 * b1 + a9 * b0
                    + h9 * FOLD + h8 * SPILL;
            to[9] = c & MASK;
            c = (c >> 26) + h9 * SPILL;
            long next = to[0] + c * FOLD;
            to[0] = next & MASK;
            next = (next >> 26) + to[1] + c * SPILL;
            to[1] = next & MASK;
            to[2] += next >> 26;
        }
    }
}
