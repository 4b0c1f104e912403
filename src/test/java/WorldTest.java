import java.util.ArrayList;
import java.util.Arrays;
import java.util.Collections;
import java.util.HashMap;
import java.util.LinkedHashMap;
import java.util.List;
import java.util.Map;
import java.util.Random;
import java.util.TreeMap;

/** Random runs of a node beside the model: branches, waiting transactions, questions, and much that is wrong. */
final class WorldTest {
    private static final Map<String, Integer> SEEN = new TreeMap<>();

    private final Random random;
    private final Kit.Node node = new Kit.Node(true);
    private final Model model = node.model;
    private final Map<String, Kit.Block> blocks = new LinkedHashMap<>();
    private final List<Kit.Tx> txs = new ArrayList<>();
    private final List<byte[]> unsent = new ArrayList<>();
    private final boolean crowded;
    private final boolean eager;
    private final boolean[] torn = new boolean[4];
    private long mark = 1;

    private WorldTest(long seed) {
        random = new Random(seed);
        crowded = seed % 4 == 1;
        eager = seed % 4 == 2;
    }

    public static void main(String[] args) {
        long from = args.length > 0 ? Long.parseLong(args[0]) : 0;
        long to = args.length > 1 ? Long.parseLong(args[1]) : 60;
        for (long seed = from; seed < to; seed++) {
            try {
                new WorldTest(seed).run();
            } catch (RuntimeException e) {
                throw new IllegalStateException("seed " + seed, e);
            }
        }
        System.out.println(SEEN);
        Kit.end();
    }

    private void run() {
        Kit.Block first = Kit.first();
        blocks.put(Model.hex(first.name()), first);
        Kit.Block last = first;
        for (int i = 0; i < 10 + random.nextInt(4); i++) {
            last = mined(last, 8, false);
            send(last.message());
            blocks.put(Model.hex(last.name()), last);
        }
        int actions = crowded ? 220 : 150;
        for (int i = 0; i < actions; i++) {
            int kind = random.nextInt(100);
            if (kind < (crowded ? 7 : eager ? 45 : 25)) {
                sendBlock();
            } else if (kind < 80) {
                sendTx();
            } else if (kind < 90) {
                ask();
            } else if (kind < 93) {
                nonsense();
            } else {
                fetchSome();
            }
        }
        for (int peer = 0; peer < 4; peer++) {
            collect(peer);
        }
        node.alike();
        values();
    }

    private static void note(List<String> answers) {
        for (String answer : answers) {
            String kind = answer.startsWith("08") ? "verdict " + Integer.parseInt(answer.substring(2, 4), 16)
                    : "frame " + answer.substring(0, 2);
            SEEN.merge(kind, 1, Integer::sum);
        }
    }

    private void send(byte[] message) {
        if (message.length > 2000) {
            return;
        }
        int peer = random.nextInt(4);
        node.send(peer, message);
        if (random.nextInt(3) > 0) {
            collect(peer);
        }
    }

    private void collect(int peer) {
        if (torn[peer]) {
            node.fetchAll(peer);
            torn[peer] = false;
        } else {
            note(node.answers(peer));
        }
    }

    private void fetchSome() {
        int peer = random.nextInt(4);
        if (random.nextInt(3) == 0) {
            int n = random.nextInt(30);
            for (int i = 0; i < n; i++) {
                node.fetch(peer);
            }
            torn[peer] = true;
        }
        if (random.nextInt(2) == 0) {
            collect(peer);
        }
    }

    private void values() {
        for (Kit.Tx tx : txs) {
            node.value(tx.name(), random.nextInt(tx.outs.size() + 1));
        }
    }

    // ---- blocks

    private Model.Block modelOf(Kit.Block block) {
        return model.knownBlock(Model.hex(block.name()));
    }

    private <T> T one(List<T> list) {
        return list.get(random.nextInt(list.size()));
    }

    private Kit.Block tip() {
        return blocks.get(model.tip.name);
    }

    /** A block that is right as far as the chain's own rules go, with what it may take. */
    private Kit.Block mined(Kit.Block below, int outputs, boolean daring) {
        Kit.Block block = Kit.behind(below);
        block.bits = Kit.bitsBehind(below);
        Model.Block parent = modelOf(below);
        long median = parent == null ? below.time : Model.median(parent);
        int[] steps = {1, 100, 600, 600, 600, 1200, 3000};
        block.time = Math.max(median + 1, below.time + steps[random.nextInt(steps.length)] - random.nextInt(50));
        long value = Kit.SUBSIDY >> block.height / 32;
        Kit.Tx root = Kit.root(daring && random.nextInt(8) == 0 ? random.nextInt(12) : mark++);
        block.with(root);
        long fees = parent == null ? 0 : fill(block, parent, daring);
        value += fees;
        if (daring && random.nextInt(12) == 0) {
            value += 1 + random.nextInt(3);
        } else if (random.nextInt(3) > 0) {
            value -= random.nextInt(1000);
        }
        for (int i = 0; i < outputs; i++) {
            long part = i == outputs - 1 ? value : value / (outputs - i);
            root.out(part, lock());
            value -= part;
        }
        if (daring && random.nextInt(30) == 0) {
            root.outs.clear();
        }
        return block.mine();
    }

    private Object[] lock() {
        int kind = random.nextInt(12);
        return kind == 0 ? new Object[] {97} : kind == 1 ? new Object[] {82, 135} : kind == 2 ? new Object[] {}
                : kind == 3 && random.nextInt(4) == 0 ? new Object[] {118, 0, 172, 117, 0, 172, 145} : new Object[] {81};
    }

    /** Some transactions for a block: from the pool, anew, and perhaps wrong ones. Tells their fees. */
    private long fill(Kit.Block block, Model.Block parent, boolean daring) {
        if (!daring) {
            return 0;
        }
        Model.Ledger ledger = Model.ledgerOf(parent);
        long fees = 0;
        List<Kit.Tx> added = new ArrayList<>();
        List<Model.Tx> pool = new ArrayList<>(model.pool);
        int many = random.nextInt(6);
        for (int i = 0; i < many && i < pool.size(); i++) {
            if (random.nextInt(4) > 0) {
                added.add(copy(pool.get(i)));
            }
        }
        Map<String, Long> spare = new HashMap<>();
        for (int i = 0; i < random.nextInt(4); i++) {
            Kit.Tx tx = spending(ledger, added, block.height);
            if (tx != null) {
                added.add(tx);
                txs.add(tx);
            }
        }
        if (random.nextInt(25) == 0) {
            Collections.shuffle(added, random);
        }
        if (random.nextInt(25) == 0 && !added.isEmpty()) {
            added.add(one(added));
        }
        for (Kit.Tx tx : added) {
            long sum = 0;
            boolean whole = true;
            for (Kit.In in : tx.ins) {
                Long value = valueOf(ledger, added, in);
                whole &= value != null;
                sum += value == null ? 0 : value;
            }
            for (Kit.Out out : tx.outs) {
                sum -= out.value;
            }
            if (whole || random.nextInt(10) == 0) {
                block.with(tx);
                fees += whole && sum > 0 ? sum : 0;
            }
        }
        while (block.txs.size() > 12 && random.nextInt(10) > 0) {
            block.txs.remove(12);
        }
        return Math.max(0, fees);
    }

    private Long valueOf(Model.Ledger ledger, List<Kit.Tx> added, Kit.In in) {
        Model.Coin coin = ledger.coins.get(Model.hex(in.name) + ":" + in.index);
        if (coin != null) {
            return coin.value.longValue();
        }
        for (Kit.Tx tx : added) {
            if (Arrays.equals(tx.name(), in.name) && in.index < tx.outs.size()) {
                return tx.outs.get((int) in.index).value;
            }
        }
        return null;
    }

    private static Kit.Tx copy(Model.Tx tx) {
        Kit.Tx out = new Kit.Tx();
        out.version = new java.math.BigInteger(1, reversed(tx.version)).longValue();
        out.time = new java.math.BigInteger(1, reversed(tx.time)).longValue();
        for (Model.In in : tx.ins) {
            Kit.In one = new Kit.In(in.name, in.index, in.script);
            one.sequence = new java.math.BigInteger(1, reversed(in.sequence)).longValue();
            out.ins.add(one);
        }
        for (Model.Out one : tx.outs) {
            out.outs.add(new Kit.Out(one.value.longValue(), one.script));
        }
        return out;
    }

    private static byte[] reversed(byte[] bytes) {
        byte[] out = new byte[bytes.length];
        for (int i = 0; i < out.length; i++) {
            out[i] = bytes[out.length - 1 - i];
        }
        return out;
    }

    private void sendBlock() {
        if (!unsent.isEmpty() && random.nextInt(3) == 0) {
            send(unsent.remove(random.nextInt(unsent.size())));
            return;
        }
        List<Kit.Block> all = new ArrayList<>(blocks.values());
        Kit.Block below = tip();
        int where = random.nextInt(10);
        if (where < (eager ? 6 : 3)) {
            below = all.get(Math.max(0, all.size() - 1 - random.nextInt(5)));
        } else if (where == 9 && random.nextInt(3) == 0) {
            below = one(all);
        }
        Kit.Block block = mined(below, random.nextInt(7) == 0 ? 8 : 1 + random.nextInt(3), true);
        boolean broken = random.nextInt(6) == 0;
        if (broken) {
            spoil(block);
        }
        byte[] message = block.message();
        if (message.length > 2000) {
            return;
        }
        if (!broken) {
            blocks.put(Model.hex(block.name()), block);
            txs.addAll(block.txs);
        }
        if (random.nextInt(12) == 0 && !broken) {
            unsent.add(message);
        } else {
            send(message);
            if (modelOf(block) != null) {
                blocks.put(Model.hex(block.name()), block);
            }
            if (random.nextInt(15) == 0) {
                send(message);
            }
        }
    }

    private void spoil(Kit.Block block) {
        switch (random.nextInt(12)) {
            case 0: block.bits = block.bits - 1; block.mine(); break;
            case 1: block.time = Model.median(model.tip) - random.nextInt(2); block.mine(); break;
            case 2: block.mine(false); break;
            case 3: block.txs.clear(); block.mine(); break;
            case 4: block.root = new byte[32]; block.mine(); break;
            case 5: block.txs.get(0).ins.get(0).script = new byte[random.nextInt(2) * 101]; block.mine(); break;
            case 6: block.txs.get(0).ins.get(0).index--; block.mine(); break;
            case 7: block.with(Kit.root(9).out(1)).mine(); break;
            case 8:
                if (block.txs.size() > 1) {
                    block.root = null;
                    block.with(block.txs.get(block.txs.size() - 1));
                    block.mine();
                }
                break;
            case 9: block.txs.get(0).outs.clear(); block.mine(); break;
            case 10: block.parent = new byte[32]; block.mine(); break;
            default: block.with(new Kit.Tx()).mine(); break;
        }
    }

    // ---- transactions

    private Kit.Tx spending(Model.Ledger ledger, List<Kit.Tx> more, int height) {
        Kit.Tx tx = new Kit.Tx().time(mark++);
        List<Map.Entry<String, Model.Coin>> coins = new ArrayList<>(ledger.coins.entrySet());
        if (!more.isEmpty() && random.nextInt(20) > 0) {
            // fine: the coins of others that wait may be taken too
        }
        long sum = 0;
        int many = crowded ? 1 : 1 + random.nextInt(random.nextInt(3) + 1);
        for (int i = 0; i < many; i++) {
            if (!more.isEmpty() && random.nextInt(crowded ? 2 : 3) == 0) {
                Kit.Tx maker = one(more);
                if (maker.outs.isEmpty()) {
                    continue;
                }
                int index = random.nextInt(maker.outs.size() + (random.nextInt(20) == 0 ? 1 : 0));
                tx.in(maker.name(), index, unlock());
                sum += index < maker.outs.size() ? maker.outs.get(index).value : 0;
            } else if (!coins.isEmpty()) {
                Map.Entry<String, Model.Coin> coin = one(coins);
                boolean ripe = !coin.getValue().first || height - coin.getValue().height >= 8;
                if (!ripe && random.nextInt(10) > 0) {
                    continue;
                }
                String[] parts = coin.getKey().split(":");
                tx.in(Model.unhex(parts[0]), Integer.parseInt(parts[1]), unlock());
                sum += coin.getValue().value.longValue();
            }
        }
        if (tx.ins.isEmpty()) {
            return null;
        }
        sum -= random.nextInt(4) == 0 ? random.nextInt(5) : random.nextInt(2000);
        int outs = crowded && random.nextInt(3) > 0 ? 1 : 1 + random.nextInt(4);
        for (int i = 0; i < outs; i++) {
            long part = i == outs - 1 ? sum : sum / 2;
            tx.out(Math.max(0, part), lock());
            sum -= part;
        }
        return tx;
    }

    private byte[] unlock() {
        int kind = random.nextInt(30);
        return kind == 0 ? new byte[0] : kind == 1 ? Kit.script(81) : Kit.script(82);
    }

    private void sendTx() {
        List<Kit.Tx> waiting = new ArrayList<>();
        for (Model.Tx tx : model.pool) {
            waiting.add(copy(tx));
        }
        Kit.Tx tx = spending(model.ledger(), waiting, model.tip.height + 1);
        if (tx == null) {
            return;
        }
        if (random.nextInt(12) == 0) {
            spoil(tx);
        } else if (random.nextInt(30) == 0 && !txs.isEmpty()) {
            tx = one(txs);
        } else if (random.nextInt(30) == 0 && !waiting.isEmpty()) {
            tx = one(waiting);
        }
        txs.add(tx);
        send(tx.message());
    }

    private void spoil(Kit.Tx tx) {
        switch (random.nextInt(10)) {
            case 0: tx.ins.clear(); break;
            case 1: tx.outs.clear(); break;
            case 2: tx.outs.get(0).value = 2100000000000001L; break;
            case 3: tx.outs.get(0).value = -1 - random.nextInt(3); break;
            case 4: tx.ins.add(tx.ins.get(0)); break;
            case 5: tx.in(new byte[32], 4294967295L, Kit.script(82)); break;
            case 6: tx.ins.get(0).index = 2147483648L + random.nextInt(3); break;
            case 7: tx.ins.get(0).name = new byte[32]; break;
            case 8: tx.outs.get(0).value += 5000; break;
            default: tx.ins.get(0).index += 1; break;
        }
    }

    // ---- questions

    private byte[] name() {
        List<byte[]> names = new ArrayList<>();
        names.add(new byte[32]);
        names.add(one(model.known).name == null ? new byte[32] : Model.unhex(one(model.known).name));
        names.add(Model.unhex(one(model.known).name));
        names.add(Model.unhex(model.tip.name));
        if (!model.pool.isEmpty()) {
            names.add(Model.unhex(one(model.pool).name));
            names.add(Model.unhex(one(model.pool).name));
        }
        if (!txs.isEmpty()) {
            names.add(one(txs).name());
        }
        return one(names);
    }

    private void ask() {
        int kind = new int[] {3, 4, 4, 6, 6}[random.nextInt(5)];
        int n = kind == 3 ? random.nextInt(21) : 1 + random.nextInt(8);
        byte[] message = Kit.bytes(kind, n);
        for (int i = 0; i < n; i++) {
            message = kind == 3 ? Kit.joined(message, name())
                    : Kit.joined(message, Kit.bytes(1 + random.nextInt(2)), name());
        }
        send(message);
    }

    private void nonsense() {
        byte[] message = random.nextBoolean() ? tip().message() : Kit.joined(Kit.bytes(4, 1, 1), name());
        int kind = random.nextInt(4);
        if (kind == 0) {
            message = Arrays.copyOf(message, 1 + random.nextInt(message.length));
        } else if (kind == 1) {
            message = Arrays.copyOf(message, message.length + 1);
        } else if (kind == 2) {
            message[random.nextInt(Math.min(3, message.length))] = (byte) random.nextInt(12);
        } else {
            message = new byte[1 + random.nextInt(100)];
            random.nextBytes(message);
        }
        send(message);
    }
}
