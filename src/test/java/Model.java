import java.io.ByteArrayOutputStream;
import java.math.BigInteger;
import java.util.ArrayDeque;
import java.util.ArrayList;
import java.util.Arrays;
import java.util.Collections;
import java.util.Deque;
import java.util.HashMap;
import java.util.HashSet;
import java.util.LinkedHashMap;
import java.util.List;
import java.util.Map;
import java.util.Set;

/**
 * The node a second time, written from the document alone and with all means of the Java library: it keeps nothing
 * but the blocks, the pool's order and the answers, and works everything else out anew each time.
 */
final class Model {
    static final class Wrong extends Exception {
        final int code;

        Wrong(int code) {
            super("code " + code, null, false, false);
            this.code = code;
        }
    }

    static final class In {
        byte[] name;
        long index;
        byte[] script;
        byte[] sequence;

        String key() {
            return hex(name) + ":" + index;
        }

        boolean isRoot() {
            return index == 4294967295L && Arrays.equals(name, new byte[32]);
        }
    }

    static final class Out {
        BigInteger value;
        byte[] script;
    }

    static final class Tx {
        byte[] bytes;
        byte[] version;
        byte[] time;
        String name;
        final List<In> ins = new ArrayList<>();
        final List<Out> outs = new ArrayList<>();

        BigInteger sum() {
            BigInteger all = BigInteger.ZERO;
            for (Out out : outs) {
                all = all.add(out.value);
            }
            return all;
        }
    }

    static final class Block {
        byte[] bytes;
        byte[] head;
        String name;
        String parentName;
        byte[] root;
        long time;
        long bits;
        final List<Tx> txs = new ArrayList<>();
        Block parent;
        int height;
        BigInteger work;
        boolean bad;
    }

    static final class Coin {
        BigInteger value;
        byte[] script;
        int height;
        boolean first;
    }

    static final class Ledger {
        final Map<String, Coin> coins = new LinkedHashMap<>();
        int spent;
    }

    static final class Reader {
        final byte[] bytes;
        int at;

        Reader(byte[] bytes, int at) {
            this.bytes = bytes;
            this.at = at;
        }

        byte[] next(long n) throws Wrong {
            if (n > bytes.length - at) {
                throw new Wrong(1);
            }
            at += (int) n;
            return Arrays.copyOfRange(bytes, at - (int) n, at);
        }

        BigInteger number(int n) throws Wrong {
            byte[] low = next(n);
            BigInteger all = BigInteger.ZERO;
            for (int i = n - 1; i >= 0; i--) {
                all = all.shiftLeft(8).add(BigInteger.valueOf(low[i] & 255));
            }
            return all;
        }

        int size(int most) throws Wrong {
            BigInteger size = number(1);
            int head = size.intValue();
            if (head >= 253) {
                size = number(head == 253 ? 2 : head == 254 ? 4 : 8);
                BigInteger least = BigInteger.valueOf(head == 253 ? 253L : head == 254 ? 65536L : 4294967296L);
                if (size.compareTo(least) < 0) {
                    throw new Wrong(1);
                }
            }
            if (size.compareTo(BigInteger.valueOf(most)) > 0) {
                throw new Wrong(1);
            }
            return size.intValue();
        }

        void isAtEnd() throws Wrong {
            demand(at == bytes.length, 1);
        }

        int count(int least, int most) throws Wrong {
            int n = number(1).intValue();
            demand(n >= least && n <= most, 1);
            return n;
        }

        Tx tx() throws Wrong {
            int from = at;
            Tx tx = new Tx();
            tx.version = next(4);
            int many = size(8);
            for (int i = 0; i < many; i++) {
                In in = new In();
                in.name = next(32);
                in.index = number(4).longValue();
                in.script = next(size(200));
                in.sequence = next(4);
                tx.ins.add(in);
            }
            many = size(8);
            for (int i = 0; i < many; i++) {
                Out out = new Out();
                out.value = number(8);
                out.script = next(size(200));
                tx.outs.add(out);
            }
            tx.time = next(4);
            tx.bytes = Arrays.copyOfRange(bytes, from, at);
            tx.name = hex(Crypto.name(tx.bytes));
            return tx;
        }

        Block block() throws Wrong {
            int from = at;
            Block block = new Block();
            block.head = next(80);
            block.name = hex(Crypto.name(block.head));
            block.parentName = hex(Arrays.copyOfRange(block.head, 4, 36));
            block.root = Arrays.copyOfRange(block.head, 36, 68);
            Reader reader = new Reader(block.head, 68);
            block.time = reader.number(4).longValue();
            block.bits = reader.number(4).longValue();
            int many = size(12);
            for (int i = 0; i < many; i++) {
                block.txs.add(tx());
            }
            block.bytes = Arrays.copyOfRange(bytes, from, at);
            return block;
        }
    }

    private final ByteArrayOutputStream tape = new ByteArrayOutputStream();
    private final List<Deque<Byte>> boxes = new ArrayList<>();
    final List<Block> known = new ArrayList<>();
    Block tip;
    List<Tx> pool = new ArrayList<>();
    private String keyInHand = hex(new byte[32]) + ":0";
    private Block ledgerBlock;
    private Ledger ledger;

    Model() {
        for (int i = 0; i < 4; i++) {
            boxes.add(new ArrayDeque<>());
        }
        ByteArrayOutputStream head = new ByteArrayOutputStream();
        head.writeBytes(low(1, 4));
        head.writeBytes(new byte[64]);
        head.writeBytes(low(1000000, 4));
        head.writeBytes(low(0x207FFFFF, 4));
        head.writeBytes(new byte[5]);
        try {
            tip = new Reader(head.toByteArray(), 0).block();
        } catch (Wrong e) {
            throw new IllegalStateException(e);
        }
        tip.work = BigInteger.ONE.shiftLeft(256).divide(target(tip.bits).add(BigInteger.ONE));
        known.add(tip);
    }

    static byte[] low(long number, int n) {
        byte[] out = new byte[n];
        for (int i = 0; i < n; i++) {
            out[i] = (byte) (number >>> 8 * i);
        }
        return out;
    }

    static String hex(byte[] bytes) {
        StringBuilder out = new StringBuilder();
        for (byte one : bytes) {
            out.append(String.format("%02x", one));
        }
        return out.toString();
    }

    static byte[] unhex(String text) {
        byte[] out = new byte[text.length() / 2];
        for (int i = 0; i < out.length; i++) {
            out[i] = (byte) Integer.parseInt(text.substring(2 * i, 2 * i + 2), 16);
        }
        return out;
    }

    // ---- the face

    boolean feed(int a, int b, int c, int d, int e) {
        if (tape.size() + 20 > 2000) {
            return false;
        }
        for (int word : new int[] {a, b, c, d, e}) {
            for (int shift = 24; shift >= 0; shift -= 8) {
                tape.write(word >>> shift);
            }
        }
        return true;
    }

    boolean send(int peer, int n) {
        if (peer < 0 || peer > 3 || n < 1 || n > tape.size()) {
            return false;
        }
        byte[] message = Arrays.copyOf(tape.toByteArray(), n);
        tape.reset();
        try {
            take(peer, message);
        } catch (Wrong e) {
            verdict(peer, 1, hex(new byte[32]));
        }
        return true;
    }

    long fetch(int peer) {
        if (peer < 0 || peer > 3) {
            return 0;
        }
        Deque<Byte> box = boxes.get(peer);
        int n = Math.min(7, box.size());
        long out = (long) n << 56;
        for (int i = 0; i < n; i++) {
            out |= (long) (box.removeFirst() & 255) << 48 - 8 * i;
        }
        return out;
    }

    long block(int height, int k) {
        Block block = tip;
        while (block != null && block.height > height) {
            block = block.parent;
        }
        if (block == null || block.height != height || k < 0 || k > 3) {
            return 0;
        }
        return new BigInteger(block.name.substring(16 * k, 16 * k + 16), 16).longValue();
    }

    void key(long a, long b, long c, long d, int index) {
        keyInHand = String.format("%016x%016x%016x%016x:%d", a, b, c, d, index & 0xffffffffL);
    }

    long value() {
        Coin coin = ledger().coins.get(keyInHand);
        return coin == null ? -1 : coin.value.longValue();
    }

    long total() {
        return ledger().coins.values().stream().mapToLong(coin -> coin.value.longValue()).sum();
    }

    int count(int what) {
        switch (what) {
            case 0: return known.size();
            case 1: return tip.height;
            case 2: return ledger().coins.size();
            case 3: return pool.size();
            case 4: return tape.size();
            case 5: return (int) known.stream().filter(block -> block.bad).count();
            default: return -1;
        }
    }

    long fees() {
        return pool.stream().mapToLong(tx -> fee(tx).longValue()).sum();
    }

    // ---- messages

    private void frame(int peer, byte[] message) {
        Deque<Byte> box = boxes.get(peer);
        if (box.size() + 2 + message.length > 8000) {
            return;
        }
        box.add((byte) (message.length >> 8));
        box.add((byte) message.length);
        for (byte one : message) {
            box.add(one);
        }
    }

    private static byte[] joined(byte[]... parts) {
        ByteArrayOutputStream out = new ByteArrayOutputStream();
        for (byte[] part : parts) {
            out.writeBytes(part);
        }
        return out.toByteArray();
    }

    private void verdict(int peer, int code, String name) {
        frame(peer, joined(new byte[] {8, (byte) code}, unhex(name)));
    }

    private void take(int peer, byte[] message) throws Wrong {
        Reader reader = new Reader(message, 1);
        switch (message[0]) {
            case 1: {
                Tx tx = reader.tx();
                reader.isAtEnd();
                takeTx(peer, tx);
                break;
            }
            case 2: {
                Block block = reader.block();
                reader.isAtEnd();
                takeBlock(peer, block);
                break;
            }
            case 3: {
                List<String> names = new ArrayList<>();
                int n = reader.count(0, 20);
                for (int i = 0; i < n; i++) {
                    names.add(hex(reader.next(32)));
                }
                reader.isAtEnd();
                heads(peer, names);
                break;
            }
            case 4:
            case 6: {
                List<byte[]> items = new ArrayList<>();
                int n = reader.count(1, 8);
                for (int i = 0; i < n; i++) {
                    byte[] item = reader.next(33);
                    if (item[0] != 1 && item[0] != 2) {
                        throw new Wrong(1);
                    }
                    items.add(item);
                }
                reader.isAtEnd();
                if (message[0] == 4) {
                    give(peer, items);
                } else {
                    have(peer, items);
                }
                break;
            }
            default:
                throw new Wrong(1);
        }
    }

    Block knownBlock(String name) {
        for (Block block : known) {
            if (block.name.equals(name)) {
                return block;
            }
        }
        return null;
    }

    private Tx pooled(String name) {
        for (Tx tx : pool) {
            if (tx.name.equals(name)) {
                return tx;
            }
        }
        return null;
    }

    private static List<Block> chainOf(Block block) {
        List<Block> chain = new ArrayList<>();
        for (Block one = block; one != null; one = one.parent) {
            chain.add(one);
        }
        Collections.reverse(chain);
        return chain;
    }

    private void heads(int peer, List<String> names) {
        List<Block> chain = chainOf(tip);
        int start = 0;
        search:
        for (String name : names) {
            for (Block block : chain) {
                if (block.name.equals(name)) {
                    start = block.height;
                    break search;
                }
            }
        }
        List<Block> heads = chain.subList(start + 1, Math.min(chain.size(), start + 17));
        byte[] message = {5, (byte) heads.size()};
        for (Block block : heads) {
            message = joined(message, block.head);
        }
        frame(peer, message);
    }

    private void give(int peer, List<byte[]> items) {
        for (byte[] item : items) {
            String name = hex(Arrays.copyOfRange(item, 1, 33));
            Tx tx = item[0] == 1 ? pooled(name) : null;
            Block block = item[0] == 2 ? knownBlock(name) : null;
            if (tx != null) {
                frame(peer, joined(new byte[] {1}, tx.bytes));
            } else if (block != null && block.parent != null) {
                frame(peer, joined(new byte[] {2}, block.bytes));
            } else {
                frame(peer, joined(new byte[] {7}, item));
            }
        }
    }

    private void have(int peer, List<byte[]> items) {
        List<byte[]> missing = new ArrayList<>();
        for (byte[] item : items) {
            String name = hex(Arrays.copyOfRange(item, 1, 33));
            if (item[0] == 1 ? pooled(name) == null : knownBlock(name) == null) {
                missing.add(item);
            }
        }
        if (!missing.isEmpty()) {
            frame(peer, joined(new byte[] {4, (byte) missing.size()}, joined(missing.toArray(new byte[0][]))));
        }
    }

    private void tell(int peer, int kind, String name) {
        for (int other = 0; other < 4; other++) {
            if (other != peer) {
                frame(other, joined(new byte[] {6, 1, (byte) kind}, unhex(name)));
            }
        }
    }

    // ---- blocks

    static BigInteger target(long bits) {
        int s = (int) (bits >>> 24);
        BigInteger m = BigInteger.valueOf(bits & 0x7fffff);
        return s >= 3 ? m.shiftLeft(8 * (s - 3)) : m.shiftRight(8 * (3 - s));
    }

    static long compact(BigInteger number) {
        byte[] bytes = number.toByteArray();
        if (bytes[0] == 0 && bytes.length > 1) {
            bytes = Arrays.copyOfRange(bytes, 1, bytes.length);
        }
        int s = bytes.length;
        byte[] three = Arrays.copyOf(bytes, 3);
        long m = (three[0] & 255) << 16 | (three[1] & 255) << 8 | three[2] & 255;
        if (three[0] < 0) {
            m >>= 8;
            s++;
        }
        return (long) s << 24 | m;
    }

    static long bitsBehind(Block p) {
        if ((p.height + 1) % 8 != 0) {
            return p.bits;
        }
        Block below = p;
        for (int i = 0; i < 7; i++) {
            below = below.parent;
        }
        long t = Math.min(19200, Math.max(1200, p.time - below.time));
        BigInteger next = target(p.bits).multiply(BigInteger.valueOf(t)).divide(BigInteger.valueOf(4800));
        return compact(next.min(target(0x207FFFFF)));
    }

    static long median(Block p) {
        List<Long> times = new ArrayList<>();
        for (Block one = p; one != null && times.size() < 11; one = one.parent) {
            times.add(one.time);
        }
        Collections.sort(times);
        return times.get(times.size() / 2);
    }

    private void row(int peer) {
        List<Block> chain = chainOf(tip);
        List<byte[]> names = new ArrayList<>();
        int height = tip.height;
        names.add(unhex(chain.get(height).name));
        int step = 1;
        for (int taken = 0; height > 0; taken++) {
            step = taken < 9 ? 1 : step * 2;
            height = Math.max(0, height - step);
            names.add(unhex(chain.get(height).name));
        }
        frame(peer, joined(new byte[] {3, (byte) names.size()}, joined(names.toArray(new byte[0][]))));
    }

    private void takeBlock(int peer, Block block) {
        Block before = tip;
        int code;
        try {
            check(block);
            code = settle(block);
        } catch (Wrong e) {
            if (e.code == 21) {
                row(peer);
                return;
            }
            code = e.code;
        }
        verdict(peer, code, block.name);
        if (tip != before) {
            tell(peer, 2, tip.name);
        }
    }

    private void check(Block block) throws Wrong {
        demand(knownBlock(block.name) == null, 20);
        block.parent = knownBlock(block.parentName);
        demand(block.parent != null, 21);
        demand(!block.parent.bad, 22);
        demand(block.bits == bitsBehind(block.parent), 23);
        demand(block.time > median(block.parent), 24);
        byte[] reversed = unhex(block.name);
        for (int i = 0; i < 16; i++) {
            byte one = reversed[i];
            reversed[i] = reversed[31 - i];
            reversed[31 - i] = one;
        }
        demand(new BigInteger(1, reversed).compareTo(target(block.bits)) <= 0, 25);
        demand(!block.txs.isEmpty(), 26);
        List<In> ins = block.txs.get(0).ins;
        demand(ins.size() == 1 && ins.get(0).isRoot(), 26);
        demand(ins.get(0).script.length >= 2 && ins.get(0).script.length <= 100, 26);
        for (Tx tx : block.txs.subList(1, block.txs.size())) {
            for (In in : tx.ins) {
                demand(!in.isRoot(), 26);
            }
        }
        List<byte[]> row = new ArrayList<>();
        for (Tx tx : block.txs) {
            row.add(unhex(tx.name));
        }
        while (row.size() > 1) {
            List<byte[]> next = new ArrayList<>();
            for (int i = 0; i < row.size(); i += 2) {
                byte[] left = row.get(i);
                byte[] right = i + 1 < row.size() ? row.get(i + 1) : left;
                demand(i + 1 == row.size() || !Arrays.equals(left, right), 27);
                next.add(Crypto.name(joined(left, right)));
            }
            row = next;
        }
        demand(Arrays.equals(row.get(0), block.root), 27);
        for (Tx tx : block.txs) {
            try {
                if (tx == block.txs.get(0)) {
                    demand(!tx.outs.isEmpty(), 28);
                    tooMuch(tx);
                } else {
                    byItself(tx);
                }
            } catch (Wrong e) {
                throw new Wrong(28);
            }
        }
        demand(known.size() < 300, 30);
    }

    private static void demand(boolean so, int code) throws Wrong {
        if (!so) {
            throw new Wrong(code);
        }
    }

    private static void tooMuch(Tx tx) throws Wrong {
        BigInteger most = new BigInteger("2100000000000000");
        for (Out out : tx.outs) {
            demand(out.value.compareTo(most) <= 0, 3);
        }
        demand(tx.sum().compareTo(most) <= 0, 3);
    }

    private static void byItself(Tx tx) throws Wrong {
        demand(!tx.ins.isEmpty() && !tx.outs.isEmpty(), 2);
        tooMuch(tx);
        Set<String> keys = new HashSet<>();
        for (In in : tx.ins) {
            demand(keys.add(in.key()), 4);
        }
    }

    Ledger ledger() {
        if (ledgerBlock != tip) {
            ledger = ledgerOf(tip);
            ledgerBlock = tip;
        }
        return ledger;
    }

    static Ledger ledgerOf(Block tip) {
        Ledger ledger = new Ledger();
        for (Block block : chainOf(tip)) {
            for (Tx tx : block.txs) {
                move(ledger, tx, block.height, tx == block.txs.get(0));
            }
        }
        return ledger;
    }

    private static void move(Ledger ledger, Tx tx, int height, boolean first) {
        if (!first) {
            for (In in : tx.ins) {
                ledger.coins.remove(in.key());
                ledger.spent++;
            }
        }
        for (int i = 0; i < tx.outs.size(); i++) {
            Coin coin = new Coin();
            coin.value = tx.outs.get(i).value;
            coin.script = tx.outs.get(i).script;
            coin.height = height;
            coin.first = first;
            ledger.coins.put(tx.name + ":" + i, coin);
        }
    }

    private static void judge(Block block) throws Wrong {
        Ledger ledger = ledgerOf(block.parent);
        BigInteger fees = BigInteger.ZERO;
        int[] asked = {0};
        for (Tx tx : block.txs) {
            boolean first = tx == block.txs.get(0);
            if (!first) {
                List<Coin> coins = new ArrayList<>();
                for (In in : tx.ins) {
                    coins.add(ledger.coins.get(in.key()));
                }
                demand(!coins.contains(null), 31);
                BigInteger sum = BigInteger.ZERO;
                for (Coin coin : coins) {
                    demand(!coin.first || block.height - coin.height >= 8, 32);
                    sum = sum.add(coin.value);
                }
                demand(tx.sum().compareTo(sum) <= 0, 33);
                fees = fees.add(sum).subtract(tx.sum());
                for (int i = 0; i < coins.size(); i++) {
                    demand(Scripts.holds(tx, i, coins.get(i).script, asked, 24), 34);
                }
            }
            for (int i = 0; i < tx.outs.size(); i++) {
                demand(!ledger.coins.containsKey(tx.name + ":" + i), 36);
            }
            move(ledger, tx, block.height, first);
            demand(ledger.coins.size() <= 1500 && ledger.spent <= 3000, 37);
        }
        BigInteger subsidy = BigInteger.valueOf(5000000000L).divide(BigInteger.TWO.pow(block.height / 32));
        demand(block.txs.get(0).sum().compareTo(subsidy.add(fees)) <= 0, 35);
    }

    private int settle(Block block) {
        block.height = block.parent.height + 1;
        block.work = block.parent.work.add(
                BigInteger.ONE.shiftLeft(256).divide(target(block.bits).add(BigInteger.ONE)));
        known.add(block);
        int code = 0;
        while (true) {
            Block best = null;
            for (Block one : known) {
                if (!one.bad && (best == null || one.work.compareTo(best.work) > 0)) {
                    best = one;
                }
            }
            if (best == tip) {
                return code;
            }
            List<Block> old = chainOf(tip);
            List<Block> way = chainOf(best);
            Block fault = null;
            for (Block one : way) {
                if (fault == null && !old.contains(one)) {
                    try {
                        judge(one);
                    } catch (Wrong e) {
                        fault = one;
                        code = one == block ? e.code : 22;
                    }
                }
            }
            if (fault == null) {
                tip = best;
                anew(old, way);
                return code;
            }
            for (Block one : known) {
                one.bad |= chainOf(one).contains(fault);
            }
        }
    }

    // ---- the pool

    private void anew(List<Block> old, List<Block> way) {
        List<Tx> coming = new ArrayList<>();
        for (Block block : old) {
            if (!way.contains(block)) {
                coming.addAll(block.txs.subList(1, block.txs.size()));
            }
        }
        coming.addAll(pool);
        pool = new ArrayList<>();
        for (Tx tx : coming) {
            try {
                come(tx, false);
            } catch (Wrong e) {
                // it stays out
            }
        }
    }

    private Coin coin(In in) {
        Coin coin = ledger().coins.get(in.key());
        Tx maker = pooled(hex(in.name));
        if (coin == null && maker != null && in.index < maker.outs.size()) {
            coin = new Coin();
            coin.value = maker.outs.get((int) in.index).value;
            coin.script = maker.outs.get((int) in.index).script;
        }
        return coin;
    }

    private final Map<Tx, BigInteger> feeOf = new HashMap<>();

    private BigInteger fee(Tx tx) {
        return feeOf.get(tx);
    }

    private void takeTx(int peer, Tx tx) {
        int code = 0;
        try {
            come(tx, true);
        } catch (Wrong e) {
            code = e.code;
        }
        verdict(peer, code, tx.name);
        if (code == 0) {
            tell(peer, 1, tx.name);
        }
    }

    private Set<Tx> family(Tx head) {
        Set<Tx> family = new HashSet<>();
        Deque<Tx> open = new ArrayDeque<>();
        family.add(head);
        open.add(head);
        while (!open.isEmpty()) {
            Tx one = open.remove();
            for (Tx other : pool) {
                if (other.ins.stream().anyMatch(in -> hex(in.name).equals(one.name)) && family.add(other)) {
                    open.add(other);
                }
            }
        }
        return family;
    }

    private void come(Tx tx, boolean sent) throws Wrong {
        byItself(tx);
        for (In in : tx.ins) {
            demand(!in.isRoot(), 5);
        }
        demand(pooled(tx.name) == null, 12);
        Set<String> keys = new HashSet<>();
        for (In in : tx.ins) {
            keys.add(in.key());
        }
        for (Tx other : pool) {
            for (In in : other.ins) {
                demand(!keys.contains(in.key()), 13);
            }
        }
        for (In in : tx.ins) {
            demand(in.index <= Integer.MAX_VALUE && coin(in) != null, 7);
        }
        BigInteger sum = BigInteger.ZERO;
        for (In in : tx.ins) {
            Coin coin = coin(in);
            demand(!coin.first || tip.height + 1 - coin.height >= 8, 8);
            sum = sum.add(coin.value);
        }
        demand(tx.sum().compareTo(sum) <= 0, 9);
        int[] asked = {0};
        for (int i = 0; sent && i < tx.ins.size(); i++) {
            demand(Scripts.holds(tx, i, coin(tx.ins.get(i)).script, asked, 8), 10);
        }
        for (Tx other : pool) {
            demand(hitsOutputs(tx, other) && hitsOutputs(other, tx), 15);
        }
        for (Tx one : family(tx)) {
            demand(tx.ins.stream().noneMatch(in -> hex(in.name).equals(one.name)), 14);
        }
        feeOf.put(tx, sum.subtract(tx.sum()));
        pool.add(tx);
        if (pool.size() > 40) {
            Tx least = null;
            BigInteger leastFee = null;
            BigInteger leastSize = null;
            for (Tx one : pool) {
                BigInteger fee = BigInteger.ZERO;
                BigInteger size = BigInteger.ZERO;
                for (Tx kin : family(one)) {
                    fee = fee.add(fee(kin));
                    size = size.add(BigInteger.valueOf(kin.bytes.length));
                }
                if (least == null || fee.multiply(leastSize).compareTo(leastFee.multiply(size)) <= 0) {
                    least = one;
                    leastFee = fee;
                    leastSize = size;
                }
            }
            Set<Tx> goes = family(least);
            pool.removeAll(goes);
            demand(!goes.contains(tx), 11);
        }
    }

    private static boolean hitsOutputs(Tx tx, Tx other) {
        return tx.ins.stream().noneMatch(in -> hex(in.name).equals(other.name) && in.index >= other.outs.size());
    }
}
