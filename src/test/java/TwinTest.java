import java.util.ArrayList;
import java.util.List;
import java.util.Map;
import java.util.Random;
import java.util.TreeMap;

/** Random runs beside the model in which the same transactions come again and again: sent, in blocks, in branches. */
final class TwinTest {
    private static final Map<Integer, Integer> SEEN = new TreeMap<>();

    private final Random random;
    private final Kit.Node node = new Kit.Node(true);
    private final List<Kit.Block> blocks = new ArrayList<>(List.of(Kit.first()));
    private final List<Kit.Tx> roots = new ArrayList<>();
    private final List<Kit.Tx> others = new ArrayList<>();
    private long mark = 1;

    private TwinTest(long seed) {
        random = new Random(seed);
    }

    public static void main(String[] args) {
        long from = args.length > 0 ? Long.parseLong(args[0]) : 0;
        long to = args.length > 1 ? Long.parseLong(args[1]) : 40;
        for (long seed = from; seed < to; seed++) {
            try {
                new TwinTest(seed).run();
            } catch (RuntimeException e) {
                throw new IllegalStateException("seed " + seed, e);
            }
        }
        System.out.println(SEEN);
        Kit.end();
    }

    private <T> T one(List<T> list) {
        return list.get(random.nextInt(list.size()));
    }

    private void run() {
        for (int i = 0; i < 10; i++) {
            send(behind(blocks.get(blocks.size() - 1)));
        }
        for (int i = 0; i < 140; i++) {
            int kind = random.nextInt(10);
            if (kind < 4) {
                Kit.Block below = random.nextInt(4) > 0 ? tip() : blocks.get(Math.max(0, blocks.size() - 1 - random.nextInt(7)));
                send(behind(below));
            } else if (!others.isEmpty()) {
                code(one(others).message());
            }
        }
        for (Kit.Tx tx : others) {
            node.value(tx.name(), 0);
        }
        for (Kit.Tx tx : roots) {
            node.value(tx.name(), 0);
        }
    }

    private int code(byte[] message) {
        int code = node.code(message);
        SEEN.merge(code, 1, Integer::sum);
        return code;
    }

    private Kit.Block tip() {
        for (Kit.Block block : blocks) {
            if (Model.hex(block.name()).equals(node.model.tip.name)) {
                return block;
            }
        }
        return blocks.get(0);
    }

    private void send(Kit.Block block) {
        code(block.message());
        if (node.model.knownBlock(Model.hex(block.name())) != null) {
            blocks.add(block);
        }
    }

    private Kit.Block behind(Kit.Block below) {
        Kit.Block block = Kit.behind(below);
        block.bits = Kit.bitsBehind(below);
        Model.Block parent = node.model.knownBlock(Model.hex(below.name()));
        Model.Ledger ledger = Model.ledgerOf(parent);
        // branches differ in their times, and so in their work
        block.time = Math.max(Model.median(parent) + 1, below.time + (random.nextBoolean() ? 600 : random.nextInt(300)));
        block.with(root(ledger));
        for (int i = 0; i < 11; i++) {
            if (!others.isEmpty() && random.nextInt(3) > 0) {
                add(block, ledger, one(others));
            }
        }
        return block.mine();
    }

    /** A first transaction: a new one, or one that was there before, most often without a coin now. */
    private Kit.Tx root(Model.Ledger ledger) {
        for (int i = 0; i < 6 && !roots.isEmpty(); i++) {
            Kit.Tx old = one(roots);
            boolean isLeft = ledger.coins.containsKey(Model.hex(old.name()) + ":0");
            if (!isLeft || random.nextInt(25) == 0) {
                return old;
            }
        }
        Kit.Tx root = Kit.root(mark++).out(1000 + random.nextInt(5), 81);
        roots.add(root);
        Kit.Tx last = root;
        for (int i = 0; i < 3; i++) {
            Kit.Tx next = new Kit.Tx().in(last, 0);
            if (random.nextInt(4) == 0 && !others.isEmpty()) {
                next.in(one(others), 0);
            }
            long value = last.outs.get(0).value;
            next.out(Math.max(0, value - random.nextInt(9) + (random.nextInt(12) == 0 ? 9 : 0)), 81);
            others.add(next);
            last = random.nextInt(3) > 0 ? next : root;
        }
        return root;
    }

    /** Most often only what the block may take. */
    private void add(Kit.Block block, Model.Ledger ledger, Kit.Tx tx) {
        boolean may = true;
        for (Kit.In in : tx.ins) {
            Model.Coin coin = ledger.coins.get(Model.hex(in.name) + ":" + in.index);
            may &= coin != null && (!coin.first || block.height - coin.height >= 8);
        }
        for (Kit.Tx other : block.txs) {
            for (Kit.In in : other.ins) {
                for (Kit.In mine : tx.ins) {
                    may &= !java.util.Arrays.equals(in.name, mine.name);
                }
            }
        }
        if (may || random.nextInt(60) == 0) {
            block.with(tx);
        }
    }
}
