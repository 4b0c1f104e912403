import java.util.ArrayList;
import java.util.Arrays;
import java.util.Collections;
import java.util.List;

/** What peers ask, what they are answered, and how much of it waits for them. */
final class MessageTest {
    private static final String NOT_UNDERSTOOD = "0801" + "00".repeat(32);
    private static Kit.Node node;
    private static List<Kit.Block> blocks;
    private static long mark = 20000;

    public static void main(String[] args) {
        whatIsBehind();
        give();
        have();
        notUnderstood();
        room();
        Kit.end();
    }

    private static void fresh(int many) {
        node = new Kit.Node(true);
        blocks = Kit.grow(node, Kit.first(), many, 1, 1, 81);
        node.drain();
    }

    private static List<String> ask(byte[]... parts) {
        node.send(2, Kit.joined(parts));
        Kit.same("nobody else", node.answers(0).size() + node.answers(1).size() + node.answers(3).size(), 0);
        return node.answers(2);
    }

    private static String heads(int from, int to) {
        StringBuilder out = new StringBuilder(String.format("05%02x", Math.max(0, to - from + 1)));
        for (int height = from; height <= to; height++) {
            out.append(Model.hex(blocks.get(height - 1).head()));
        }
        return out.toString();
    }

    private static byte[] name(int height) {
        return height == 0 ? Kit.first().name() : blocks.get(height - 1).name();
    }

    private static void behind(String what, String due, byte[]... names) {
        byte[] message = Kit.bytes(3, names.length);
        for (byte[] name : names) {
            message = Kit.joined(message, name);
        }
        Kit.same(what, ask(message), List.of(due));
    }

    private static void whatIsBehind() {
        fresh(0);
        behind("nothing", "0500");
        behind("the first block", "0500", name(0));
        fresh(20);
        byte[] none = Kit.repeated(9, 32);
        behind("no names", heads(1, 16));
        behind("unknown names", heads(1, 16), none, none);
        behind("the first block", heads(1, 16), name(0));
        behind("1", heads(2, 17), name(1));
        behind("4", heads(5, 20), name(4));
        behind("5", heads(6, 20), name(5));
        behind("19", heads(20, 20), name(19));
        behind("20", "0500", name(20));
        behind("the first that is there", heads(8, 20), none, name(7), name(15));
        behind("not the highest", heads(4, 19), name(3), name(15));
        behind("the first block before others", heads(1, 16), name(0), name(15));
        byte[][] twenty = new byte[20][];
        Arrays.fill(twenty, none);
        twenty[19] = name(18);
        behind("the last of twenty", heads(19, 20), twenty);
        byte[][] more = Arrays.copyOf(twenty, 21);
        more[20] = name(3);
        behind("21 names", NOT_UNDERSTOOD, more);
        // a block beside the chain of the tip does not count
        Kit.Block beside = Kit.behind(blocks.get(16)).with(Kit.root(mark++).out(1, 81)).mine();
        Kit.same("beside", node.code(beside), 0);
        behind("beside, then 3", heads(4, 19), beside.name(), name(3));
        behind("beside alone", heads(1, 16), beside.name());
    }

    private static void give() {
        fresh(12);
        Kit.Tx waits = new Kit.Tx().in(blocks.get(0).txs.get(0), 0).out(5, 81);
        Kit.same("it waits", node.code(waits), 0);
        Kit.Block bad = Kit.behind(blocks.get(11)).with(Kit.root(mark++).out(Kit.SUBSIDY + 1, 81)).mine();
        Kit.same("bad", node.code(bad), 35);
        Kit.Block beside = Kit.behind(blocks.get(10)).with(Kit.root(mark++).out(1, 81)).mine();
        Kit.same("beside", node.code(beside), 0);
        node.drain();
        byte[] none = Kit.repeated(9, 32);
        String txFrame = "01" + Model.hex(waits.bytes());
        String rootName = "0701" + Model.hex(blocks.get(0).txs.get(0).name());
        Kit.same("a transaction", ask(Kit.bytes(4, 1, 1), waits.name()), List.of(txFrame));
        Kit.same("a block", ask(Kit.bytes(4, 1, 2), name(5)), List.of(Model.hex(blocks.get(4).message())));
        Kit.same("a bad block", ask(Kit.bytes(4, 1, 2), bad.name()), List.of(Model.hex(bad.message())));
        Kit.same("a block beside", ask(Kit.bytes(4, 1, 2), beside.name()), List.of(Model.hex(beside.message())));
        Kit.same("the first block", ask(Kit.bytes(4, 1, 2), name(0)), List.of("0702" + Model.hex(name(0))));
        Kit.same("none", ask(Kit.bytes(4, 1, 1), none), List.of("0701" + Model.hex(none)));
        Kit.same("none", ask(Kit.bytes(4, 1, 2), none), List.of("0702" + Model.hex(none)));
        Kit.same("in the chain alone", ask(Kit.bytes(4, 1, 1), blocks.get(0).txs.get(0).name()), List.of(rootName));
        Kit.same("a block is no transaction", ask(Kit.bytes(4, 1, 1), name(5)), List.of("0701" + Model.hex(name(5))));
        Kit.same("nor the other way round", ask(Kit.bytes(4, 1, 2), waits.name()),
                List.of("0702" + Model.hex(waits.name())));
        Kit.same("eight in their order, some twice", ask(Kit.bytes(4, 8, 2), name(12), Kit.bytes(1), waits.name(),
                Kit.bytes(1), none, Kit.bytes(2), name(1), Kit.bytes(1), waits.name(), Kit.bytes(2), name(0),
                Kit.bytes(2), name(12), Kit.bytes(1), none),
                List.of(Model.hex(blocks.get(11).message()), txFrame, "0701" + Model.hex(none),
                Model.hex(blocks.get(0).message()), txFrame, "0702" + Model.hex(name(0)),
                Model.hex(blocks.get(11).message()), "0701" + Model.hex(none)));
        // what has left the pool is there no more
        Kit.Block next = Kit.behind(blocks.get(11)).with(Kit.root(mark++).out(1, 81), waits).mine();
        Kit.same("next", node.code(next), 0);
        node.drain();
        Kit.same("gone", ask(Kit.bytes(4, 1, 1), waits.name()), List.of("0701" + Model.hex(waits.name())));
        // what a branch that was left had waits, and is given from there
        Kit.Block over = Kit.behind(beside);
        over = Kit.behind(over.with(Kit.root(mark++).out(1, 81)).mine()).with(Kit.root(mark++).out(1, 81)).mine();
        Kit.same("over", node.code(over.below), 0);
        Kit.same("over", node.code(over), 0);
        node.drain();
        Kit.same("back", ask(Kit.bytes(4, 1, 1), waits.name()), List.of(txFrame));
    }

    private static void have() {
        fresh(12);
        Kit.Tx waits = new Kit.Tx().in(blocks.get(0).txs.get(0), 0).out(5, 81);
        Kit.same("it waits", node.code(waits), 0);
        Kit.Block bad = Kit.behind(blocks.get(11)).with(Kit.root(mark++).out(Kit.SUBSIDY + 1, 81)).mine();
        Kit.same("bad", node.code(bad), 35);
        node.drain();
        byte[] none = Kit.repeated(9, 32);
        String no = Model.hex(none);
        Kit.same("all there", ask(Kit.bytes(6, 4, 1), waits.name(), Kit.bytes(2), name(3), Kit.bytes(2), name(0),
                Kit.bytes(2), bad.name()), List.of());
        Kit.same("not there", ask(Kit.bytes(6, 1, 1), none), List.of("040101" + no));
        Kit.same("not there", ask(Kit.bytes(6, 1, 2), none), List.of("040102" + no));
        Kit.same("in the chain alone", ask(Kit.bytes(6, 1, 1), blocks.get(0).txs.get(0).name()),
                List.of("040101" + Model.hex(blocks.get(0).txs.get(0).name())));
        Kit.same("a block is no transaction", ask(Kit.bytes(6, 1, 1), name(5)), List.of("040101" + Model.hex(name(5))));
        Kit.same("nor the other way round", ask(Kit.bytes(6, 1, 2), waits.name()),
                List.of("040102" + Model.hex(waits.name())));
        Kit.same("in their order, twice", ask(Kit.bytes(6, 6, 2), none, Kit.bytes(1), waits.name(), Kit.bytes(1), none,
                Kit.bytes(2), name(2), Kit.bytes(2), none, Kit.bytes(2), waits.name()),
                List.of("040402" + no + "01" + no + "02" + no + "02" + Model.hex(waits.name())));
    }

    private static void notUnderstood() {
        fresh(3);
        List<String> wrong = List.of(NOT_UNDERSTOOD);
        for (int kind : new int[] {0, 5, 7, 8, 9, 10, 127, 128, 255}) {
            Kit.same("kind " + kind, ask(Kit.bytes(kind)), wrong);
            Kit.same("kind " + kind, ask(Kit.bytes(kind, 1, 1), name(1)), wrong);
        }
        for (int kind : new int[] {4, 6}) {
            Kit.same("no number", ask(Kit.bytes(kind)), wrong);
            Kit.same("number 0", ask(Kit.bytes(kind, 0)), wrong);
            for (int number : new int[] {2, 9, 255, 129}) {
                Kit.same("number " + number, ask(Kit.bytes(kind, number, 1), name(1)), wrong);
            }
            Kit.same("cut", ask(Kit.bytes(kind, 1, 1), Arrays.copyOf(name(1), 31)), wrong);
            Kit.same("too long", ask(Kit.bytes(kind, 1, 1), name(1), Kit.bytes(0)), wrong);
            for (int other : new int[] {0, 3, 255, 129}) {
                Kit.same("byte " + other, ask(Kit.bytes(kind, 1, other), name(1)), wrong);
                Kit.same("byte " + other + " in the second", ask(Kit.bytes(kind, 2, 2), name(9 % 3), Kit.bytes(other),
                        name(1)), wrong);
            }
            byte[] nine = Kit.bytes(kind, 9);
            for (int i = 0; i < 9; i++) {
                nine = Kit.joined(nine, Kit.bytes(2), name(1));
            }
            Kit.same("nine", ask(nine), wrong);
        }
        Kit.same("no number", ask(Kit.bytes(3)), wrong);
        Kit.same("21", ask(Kit.bytes(3, 21), new byte[21 * 32]), wrong);
        Kit.same("20", ask(Kit.bytes(3, 20), new byte[20 * 32]), List.of(heads(1, 3)));
        Kit.same("255", ask(Kit.bytes(3, 255), new byte[32]), wrong);
        Kit.same("cut", ask(Kit.bytes(3, 1), new byte[31]), wrong);
        Kit.same("too long", ask(Kit.bytes(3, 1), new byte[33]), wrong);
        Kit.same("too long", ask(Kit.bytes(3, 0), new byte[1]), wrong);
        Kit.same("bare 1", ask(Kit.bytes(1)), wrong);
        Kit.same("bare 2", ask(Kit.bytes(2)), wrong);
    }

    /** Frames wait up to 8000 bytes; one that has no room is left out, a smaller one behind it may come. */
    private static void room() {
        fresh(12);
        // 16 heads need 2 + 2 + 80 * n bytes
        byte[] all = Kit.bytes(3, 0);
        int size = 4 + 80 * 12;
        for (int i = 0; i < 9; i++) {
            node.send(1, all);
        }
        // 8 times 964 are 7712, and 288 are left: 3 heads need 244, 36 a verdict, 4 no heads
        node.send(1, Kit.joined(Kit.bytes(3, 1), name(9)));
        node.send(1, Kit.joined(Kit.bytes(3, 1), name(9)));
        node.send(1, Kit.bytes(0));
        node.send(1, Kit.bytes(0));
        for (int i = 0; i < 4; i++) {
            node.send(1, Kit.joined(Kit.bytes(3, 1), name(12)));
        }
        byte[] got = node.fetchAll(1);
        Kit.same("bytes", got.length, 8 * size + 244 + 36 + 8);
        List<String> due = new ArrayList<>(Collections.nCopies(8, heads(1, 12)));
        due.addAll(List.of(heads(10, 12), NOT_UNDERSTOOD, "0500", "0500"));
        StringBuilder hex = new StringBuilder();
        for (String one : due) {
            hex.append(String.format("%04x", one.length() / 2)).append(one);
        }
        Kit.same("those that had room", Model.hex(got), hex.toString());
        // just 8000
        for (int i = 0; i < 8; i++) {
            node.send(1, all);
        }
        for (int i = 0; i < 8; i++) {
            node.send(1, Kit.bytes(0));
        }
        Kit.same("8000 may wait", node.fetchAll(1).length, 8 * size + 8 * 36);
        for (int i = 0; i < 8; i++) {
            node.send(1, all);
        }
        for (int i = 0; i < 7; i++) {
            node.send(1, Kit.bytes(0));
        }
        for (int i = 0; i < 20; i++) {
            node.send(1, Kit.joined(Kit.bytes(3, 1), name(12)));
        }
        // each byte that is taken makes room
        Kit.same("7 taken", node.fetch(1) >>> 56, 7L);
        node.send(1, Kit.joined(Kit.bytes(3, 1), name(12)));
        node.send(1, Kit.joined(Kit.bytes(3, 1), name(12)));
        Kit.same("one of them had room", node.fetchAll(1).length, 8 * size + 7 * 36 + 9 * 4 - 7 + 4);
        // what others are told may be left out, too
        for (int i = 0; i < 8; i++) {
            node.send(3, all);
        }
        for (int i = 0; i < 8; i++) {
            node.send(3, Kit.bytes(0));
        }
        Kit.Tx waits = new Kit.Tx().in(blocks.get(0).txs.get(0), 0).out(5, 81);
        node.send(2, waits.message());
        Kit.same("the sender", node.answers(2), List.of("0800" + Model.hex(waits.name())));
        Kit.same("another", node.answers(0), List.of("060101" + Model.hex(waits.name())));
        Kit.same("the full one", node.fetchAll(3).length, 8000);
        // eight blocks of some 1500 bytes: five have room, and a smaller one behind them
        List<Kit.Block> big = new ArrayList<>();
        Kit.Block below = blocks.get(11);
        for (int i = 0; i < 3; i++) {
            Kit.Tx root = Kit.root(mark++);
            for (int j = 0; j < 8; j++) {
                Object[] script = new Object[160];
                Arrays.fill(script, 97);
                root.out(1, script);
            }
            Kit.Block block = Kit.behind(below).with(root).mine();
            Kit.same("big", node.code(block), 0);
            big.add(block);
            below = block;
        }
        node.drain();
        byte[] message = Kit.bytes(4, 8);
        for (int i = 0; i < 7; i++) {
            message = Kit.joined(message, Kit.bytes(2), big.get(i % 3).name());
        }
        List<String> answers = ask(Kit.joined(message, Kit.bytes(2), name(1)));
        Kit.same("five and the small one", answers.size(), 6);
        Kit.same("the small one", answers.get(5), Model.hex(blocks.get(0).message()));
    }
}
