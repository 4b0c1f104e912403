import java.util.Arrays;
import java.util.List;

/** The edges of a block that is sent: its codes from 1 to 30, and what becomes of one that is known. */
final class SentBlockEdges {
    private static final String ORDER = "A BLOCK that is sent, the first code that is so:";
    private static final String C1 = "1 it is no block (see BYTES; something is missing, too much, a size not as short as can "
            + "be)";
    private static final String C20 = "20 it is known";
    private static final String C21 = "21 its parent is not: no verdict, but a WHAT IS BEHIND with the ROW of the tip:";
    private static final String ROW = "the names of the tip and then, each time so many heights below, 1 nine times, then 2, 4, "
            + "8, ..; a step that would go to the first block or below it goes to it, and with it the row ends (of the first "
            + "block as the tip its name alone)";
    private static final String C22 = "22 its parent is bad";
    private static final String C23 = "23 bits are not those that it must have";
    private static final String C24 = "24 its time is not above the median of its parent";
    private static final String C25 = "25 its name, as a number (the LAST byte the highest), is above its target";
    private static final String C26 = "26 it has no transactions, the first one has not just one input, a root one, with a "
            + "script of 2 .. 100 bytes, or another one has a root input";
    private static final String C27 = "27 the root is not that of its transactions' names, or it is doubtful";
    private static final String C28 = "28 a transaction is faulty by itself (2, 3 or 4 below; the first one by 3 alone, or if it "
            + "has no outputs)";
    private static final String C30 = "30 300 blocks are known (with the first one).";
    private static final String ELSE = "Else it is known; if it is looked at and bad, or behind a bad one, then: 31 to 37, or 22; "
            + "otherwise 0.";
    private static final long MOST = 2100000000000000L;

    private SentBlockEdges() {
    }

    static void all() {
        Edge.of(3, ORDER, "each code before the next one", SentBlockEdges::order);
        Edge.of(3, C1, "something is missing, too much, a long size", SentBlockEdges::noBlock);
        Edge.of(3, C20, "the first block, the tip, one beside, a bad one, one that was refused", SentBlockEdges::known);
        Edge.of(3, C21, "no verdict, and nothing else", SentBlockEdges::orphan);
        Edge.of(3, ROW, "tips from 0 to 13", SentBlockEdges::shortRows);
        Edge.of(3, ROW, "steps that just reach the first block, and that would go below", SentBlockEdges::longRows);
        Edge.of(3, C22, "the parent itself, and one below it", SentBlockEdges::behindBad);
        Edge.of(3, C23, "one more, one less, the first one's", SentBlockEdges::otherBits);
        Edge.of(3, C24, "the median, and one more", SentBlockEdges::time);
        Edge.of(3, C25, "the last byte is the highest", SentBlockEdges::aboveTarget);
        Edge.of(3, C26, "no transactions", SentBlockEdges::noTransactions);
        Edge.of(3, C26, "no input, two inputs", SentBlockEdges::inputsOfTheFirst);
        Edge.of(3, C26, "scripts of 0, 1, 2, 100, 101 bytes", SentBlockEdges::scriptOfTheFirst);
        Edge.of(3, C26, "a root input elsewhere", SentBlockEdges::otherRootInputs);
        Edge.of(3, C27, "one bit of it", SentBlockEdges::otherRoots);
        Edge.of(3, C27, "doubtful, though the root is right", SentBlockEdges::doubtful);
        Edge.of(3, C28, "2: no inputs, no outputs", SentBlockEdges::faultyBy2);
        Edge.of(3, C28, "3: the most, and one more", SentBlockEdges::faultyBy3);
        Edge.of(3, C28, "4: like keys, and keys that are like in part", SentBlockEdges::faultyBy4);
        Edge.of(3, C28, "the first one", SentBlockEdges::faultyFirst);
        Edge.of(9, C30, "299 and 300", SentBlockEdges::mostBlocks);
        Edge.of(9, ELSE, "looked at and bad, behind a bad one, neither", SentBlockEdges::knownThen);
        Edge.of(9, ELSE, "one that is refused is not known", SentBlockEdges::refused);
    }

    private static void order() {
        Run run = new Run().grow(1, 1);
        run.answers(0);
        Kit.Block known = run.tip();
        Kit.Block again = Run.behind(Kit.first());
        byte[] bare = Kit.joined(Arrays.copyOf(known.message(), 81), Kit.bytes(0));
        Edge.due("20 before 26", run.code(bare), 20);
        Kit.Block orphan = run.next();
        orphan.parent = Kit.repeated(1, 32);
        orphan.bits = 1;
        orphan.txs.clear();
        Edge.due("21 before 23 and 26", run.code(orphan), -1);
        Kit.Block bad = run.next(Run.spendNothing());
        Edge.due("bad", run.code(bad), 31);
        Kit.Block behind = Run.behind(bad);
        behind.bits = 1;
        Edge.due("22 before 23", run.code(behind), 22);
        again.bits = 0x207ffffeL;
        again.time = 0;
        Edge.due("23 before 24", run.code(again), 23);
        Kit.Block late = Run.behind(Kit.first());
        late.time = Kit.FIRST_TIME;
        Edge.due("24 before 25", run.code(late.mine(false)), 24);
        late.time = Kit.FIRST_TIME + 1;
        late.txs.clear();
        Edge.due("25 before 26", run.code(late.mine(false)), 25);
        late.root = new byte[32];
        Edge.due("26 before 27", run.code(late.mine()), 26);
        Kit.Block root = Run.behind(Kit.first());
        root.txs.get(0).outs.clear();
        root.root = new byte[32];
        Edge.due("27 before 28", run.code(root.mine()), 27);
        Kit.Block faulty = run.next(Run.spendNothing(), new Kit.Tx().out(1));
        Edge.due("28 before 31", run.code(faulty), 28);
    }

    private static void noBlock() {
        Run run = new Run();
        byte[] message = run.next().message();
        Edge.due("a byte less", run.code(Arrays.copyOf(message, message.length - 1)), 1);
        Edge.due("a byte more", run.code(Arrays.copyOf(message, message.length + 1)), 1);
        Edge.due("the head alone", run.code(Arrays.copyOf(message, 81)), 1);
        byte[] wide = Kit.joined(Arrays.copyOf(message, 81), Kit.bytes(253, 1, 0), Arrays.copyOfRange(message, 82,
                message.length));
        Edge.due("a size that is too long", run.code(wide), 1);
        Edge.due("as it is", run.code(message), 0);
    }

    private static void known() {
        Run run = new Run().grow(2, 1);
        run.answers(0);
        Kit.Block beside = Run.behind(run.chain.get(1));
        Kit.Block bad = run.next(Run.spendNothing());
        Kit.Block refused = run.next();
        refused.txs.get(0).outs.clear();
        Edge.due("beside", run.code(beside), 0);
        Edge.due("bad", run.code(bad), 31);
        Edge.due("refused", run.code(refused.mine()), 28);
        Edge.due("the first block", run.code(Kit.first()), 20);
        Edge.due("the tip", run.code(run.tip()), 20);
        Edge.due("one below", run.code(run.chain.get(1)), 20);
        Edge.due("beside again", run.code(beside), 20);
        Edge.due("bad again", run.code(bad), 20);
        Edge.due("refused again", run.code(refused), 28);
    }

    private static Kit.Block noParent() {
        Kit.Block block = Run.behind(Kit.first());
        block.parent = Kit.repeated(1, 32);
        return block;
    }

    private static String row(Run run, int... heights) {
        StringBuilder out = new StringBuilder(String.format("03%02x", heights.length));
        for (int height : heights) {
            out.append(Model.hex(run.chain.get(height).name()));
        }
        return out.toString();
    }

    private static void orphan() {
        Run run = new Run().grow(1, 1);
        for (int peer = 0; peer < 4; peer++) {
            run.answers(peer);
        }
        Kit.Block next = run.next();
        Kit.Block afterNext = Run.behind(next);
        Edge.due("the row", run.ask(1, afterNext.message()), List.of(row(run, 1, 0)));
        for (int peer = 0; peer < 4; peer++) {
            Edge.due("nothing else", run.fetch(peer), 0L);
        }
        Edge.due("it is not known", run.count(0), 2);
        Edge.due("its parent", run.code(next), 0);
        run.chain.add(next);
        Edge.due("and now", run.code(afterNext), 0);
        run.chain.add(afterNext);
        Edge.due("the row of the new tip", run.ask(0, noParent().message()), List.of(row(run, 3, 2, 1, 0)));
    }

    private static void shortRows() {
        Run run = new Run();
        int[][] rows = {{0}, {1, 0}, {2, 1, 0}, {3, 2, 1, 0}};
        for (int[] row : rows) {
            if (row.length > 1) {
                run.add(run.next());
                run.answers(0);
            }
            Edge.due("a tip at " + row[0], run.ask(0, noParent().message()), List.of(row(run, row)));
        }
    }

    private static void longRows() {
        int[][] rows = {{8, 7, 6, 5, 4, 3, 2, 1, 0}, {9, 8, 7, 6, 5, 4, 3, 2, 1, 0}, {10, 9, 8, 7, 6, 5, 4, 3, 2, 1, 0},
            {11, 10, 9, 8, 7, 6, 5, 4, 3, 2, 0}, {12, 11, 10, 9, 8, 7, 6, 5, 4, 3, 1, 0},
            {13, 12, 11, 10, 9, 8, 7, 6, 5, 4, 2, 0}, {15, 14, 13, 12, 11, 10, 9, 8, 7, 6, 4, 0},
            {16, 15, 14, 13, 12, 11, 10, 9, 8, 7, 5, 1, 0}, {23, 22, 21, 20, 19, 18, 17, 16, 15, 14, 12, 8, 0},
            {24, 23, 22, 21, 20, 19, 18, 17, 16, 15, 13, 9, 1, 0}};
        for (int[] row : rows) {
            Run run = new Run().grow(row[0], 1);
            run.answers(2);
            List<String> answers = run.ask(2, noParent().message());
            Edge.due("a tip at " + row[0], answers, List.of(row(run, row)));
        }
    }

    private static void behindBad() {
        Run run = new Run().grow(1, 1);
        run.answers(0);
        Kit.Block bad = run.next(Run.spendNothing());
        Edge.due("bad", run.code(bad), 31);
        Kit.Block behind = Run.behind(bad);
        Edge.due("behind it", run.code(behind), 22);
        Edge.due("again: it is not known", run.code(behind), 22);
        Edge.due("behind that: no parent", run.code(Run.behind(behind)), -1);
        Edge.due("known", run.count(0), 3);
        // a bad one that was known as one behind a bad one
        Kit.Block beside = Run.behind(run.chain.get(0), Run.spendNothing());
        Kit.Block second = Run.behind(beside);
        run.put(beside);
        Edge.due("its parent is bad, as it shows", run.code(second), 22);
        Edge.due("behind the second", run.code(Run.behind(second)), 22);
    }

    private static void otherBits() {
        Run run = new Run();
        for (long bits : new long[] {0x207ffffeL, 0x20800000L, 0x1f7fffffL, 0}) {
            Kit.Block block = run.next();
            block.bits = bits;
            Edge.due(Long.toHexString(bits), run.code(block), 23);
        }
        Edge.due("just those", run.code(run.next()), 0);
        run = Run.ripe(1);
        run.answers(0);
        Kit.Block nine = run.next();
        nine.bits = 0x207fffffL;
        Edge.due("the first one's at 9", run.code(nine.mine()), 23);
    }

    private static void time() {
        Run run = new Run();
        for (long time : new long[] {0, 999999, 1000000, 1000001}) {
            Kit.Block block = run.next();
            block.time = time;
            Edge.due("time " + time, run.code(block.mine()), time > 1000000 ? 0 : 24);
        }
    }

    private static void aboveTarget() {
        Run run = new Run();
        Kit.Block above = run.next();
        while ((above.name()[31] & 255) < 128 || above.name()[0] < 0) {
            above.nonce++;
        }
        Edge.due("128 at last, less at first", run.code(above), 25);
        Kit.Block below = run.next();
        while ((below.name()[31] & 255) > 127 || below.name()[0] >= 0) {
            below.nonce++;
        }
        Edge.due("127 at last, 128 at first", run.code(below), 0);
    }

    private static void noTransactions() {
        Run run = new Run();
        Kit.Block none = run.next();
        none.txs.clear();
        none.root = new byte[32];
        Edge.due("none", run.code(none.mine()), 26);
        Kit.Block plain = run.next();
        plain.txs.set(0, Run.spendNothing());
        plain.txs.get(0).ins.get(0).script = Kit.bytes(1, 2, 3, 4);
        Edge.due("no first one", run.code(plain.mine()), 26);
        Edge.due("one", run.code(run.next()), 0);
    }

    private static void inputsOfTheFirst() {
        Run run = new Run();
        Kit.Block none = run.next();
        none.txs.get(0).ins.clear();
        Edge.due("no input", run.code(none.mine()), 26);
        Kit.Block two = run.next();
        two.txs.get(0).in(new byte[32], 4294967295L, new byte[4]);
        Edge.due("two root inputs", run.code(two.mine()), 26);
        Kit.Block last = run.next();
        last.txs.get(0).in(Kit.repeated(1, 32), 0, new byte[4]);
        Edge.due("a root one and another", run.code(last.mine()), 26);
        Kit.Block first = run.next();
        first.txs.get(0).ins.add(0, new Kit.In(Kit.repeated(1, 32), 0, new byte[4]));
        Edge.due("another and a root one", run.code(first.mine()), 26);
    }

    private static void scriptOfTheFirst() {
        for (int size : new int[] {0, 1, 2, 3, 99, 100, 101, 127, 128, 200}) {
            Run run = new Run();
            Kit.Block block = run.next();
            block.txs.get(0).ins.get(0).script = Kit.repeated(size, size);
            Edge.due("of " + size, run.code(block.mine()), size >= 2 && size <= 100 ? 0 : 26);
        }
    }

    private static void otherRootInputs() {
        Run run = new Run();
        Edge.due("a second first one", run.code(run.next(Kit.root(1).out(1))), 26);
        Kit.Tx eight = Run.spendNothing();
        for (int i = 1; i < 7; i++) {
            eight.in(Kit.repeated(i, 32), 0, new byte[0]);
        }
        eight.in(new byte[32], 4294967295L, new byte[0]);
        Edge.due("the eighth input", run.code(run.next(eight)), 26);
        Kit.Block last = run.next();
        for (int i = 0; i < 10; i++) {
            last.with(Run.spendNothing());
        }
        last.with(new Kit.Tx().in(new byte[32], 4294967295L, new byte[0]).out(1));
        Edge.due("the twelfth transaction", run.code(last.mine()), 26);
        eight.ins.get(7).index--;
        Edge.due("no root input", run.code(run.next(eight)), 31);
    }

    private static void otherRoots() {
        Run run = new Run();
        for (int at : new int[] {0, 31}) {
            for (int bit : new int[] {1, 128}) {
                Kit.Block block = run.next();
                block.root = block.txs.get(0).name();
                block.root[at] ^= (byte) bit;
                Edge.due("byte " + at, run.code(block.mine()), 27);
            }
        }
        Kit.Block other = run.next();
        other.mine();
        other.root = Arrays.copyOfRange(other.head(), 36, 68);
        other.txs.get(0).time++;
        Edge.due("that of another transaction", run.code(other), 27);
        other.txs.get(0).time--;
        Edge.due("its own", run.code(other), 0);
    }

    private static void doubtful() {
        Run run = new Run();
        Kit.Tx one = Run.spendNothing();
        Kit.Tx two = Run.spendNothing();
        Edge.due("four, the last two alike", run.code(run.next(one, two, two)), 27);
        Kit.Block three = run.next(one, two);
        Kit.Block four = run.next(one, two, two);
        four.txs.set(0, three.txs.get(0));
        Edge.due("the roots are the same", Model.hex(four.mine().head()).substring(72, 136),
                Model.hex(three.head()).substring(72, 136));
        Edge.due("three, though as a row of four it would be doubtful", run.code(three), 31);
    }

    private static void faultyBy2() {
        Run run = new Run();
        Edge.due("no inputs", run.code(run.next(new Kit.Tx().out(1))), 28);
        Kit.Tx none = Run.spendNothing();
        none.outs.clear();
        Edge.due("no outputs", run.code(run.next(none)), 28);
        Edge.due("the last one", run.code(run.next(Run.spendNothing(), Run.spendNothing(), none)), 28);
        Edge.due("one of each", run.code(run.next(Run.spendNothing())), 31);
    }

    private static void faultyBy3() {
        Run run = new Run();
        for (long value : new long[] {MOST, MOST + 1, Long.MAX_VALUE, Long.MIN_VALUE, -1}) {
            Kit.Tx tx = Run.spendNothing();
            tx.outs.get(0).value = value;
            Edge.due("value " + value, run.code(run.next(tx)), value == MOST ? 31 : 28);
        }
        Kit.Tx two = Run.spendNothing();
        two.outs.get(0).value = MOST - 1;
        Edge.due("together the most", run.code(run.next(two.out(1))), 31);
        Edge.due("together one more", run.code(run.next(two.out(1))), 28);
    }

    private static void faultyBy4() {
        Run run = new Run();
        byte[] name = Kit.repeated(5, 32);
        Edge.due("like keys", run.code(run.next(new Kit.Tx().in(name, 1, new byte[0]).in(name, 1, Kit.bytes(1)).out(1))), 28);
        Edge.due("the first and the third", run.code(run.next(new Kit.Tx().in(name, 1, new byte[0]).in(name, 2, new byte[0])
                .in(name, 1, new byte[0]).out(1))), 28);
        Edge.due("another index", run.code(run.next(new Kit.Tx().in(name, 1, new byte[0]).in(name, 2, new byte[0]).out(1))), 31);
        byte[] other = name.clone();
        other[31]++;
        Edge.due("another name", run.code(run.next(new Kit.Tx().in(name, 1, new byte[0]).in(other, 1, new byte[0]).out(1))),
                31);
        Kit.Tx same = new Kit.Tx().in(name, 1, new byte[0]).out(1);
        Edge.due("in two transactions", run.code(run.next(same, new Kit.Tx().in(name, 1, new byte[0]).out(2))), 31);
    }

    private static void faultyFirst() {
        Run run = new Run();
        Kit.Block none = run.next();
        none.txs.get(0).outs.clear();
        Edge.due("no outputs", run.code(none.mine()), 28);
        for (long value : new long[] {MOST, MOST + 1, -1}) {
            Kit.Block block = run.next();
            block.txs.get(0).outs.get(0).value = value;
            Edge.due("value " + value, run.code(block.mine()), value == MOST ? 35 : 28);
        }
        Kit.Block two = run.next();
        two.txs.get(0).outs.get(0).value = MOST;
        two.txs.get(0).out(1);
        Edge.due("one more together", run.code(two.mine()), 28);
    }

    private static void mostBlocks() {
        // a long run: 300 blocks need more than 512 calls
        Run run = new Run(true).grow(1, 1);
        for (int i = 0; i < 297; i++) {
            Kit.Block beside = Run.behind(Kit.first());
            run.put(beside);
        }
        Edge.due("299", run.count(0), 299);
        run.answers(0);
        Kit.Block last = run.next();
        Edge.due("the 300th", run.code(last), 0);
        Edge.due("300", run.count(0), 300);
        Edge.due("one more", run.code(Run.behind(last)), 30);
        Kit.Block faulty = Run.behind(last);
        faulty.txs.get(0).outs.clear();
        Edge.due("28 before 30", run.code(faulty.mine()), 28);
        Edge.due("20 before 30", run.code(last), 20);
        Edge.due("300", run.count(0), 300);
        run.tip("the 300th", last);
    }

    private static void knownThen() {
        Run run = new Run().grow(1, 1);
        run.answers(0);
        Edge.due("bad", run.code(run.next(Run.spendNothing())), 31);
        Edge.due("it is known", run.count(0), 3);
        Kit.Block notLookedAt = Run.behind(Kit.first(), Run.spendNothing());
        Edge.due("not looked at", run.code(notLookedAt), 0);
        Edge.due("it is known", run.count(0), 4);
        Edge.due("behind a bad one, as it shows", run.code(Run.behind(notLookedAt)), 22);
        Edge.due("it is known, too", run.count(0), 5);
        Edge.due("three are bad", run.count(5), 3);
        Edge.due("right", run.code(run.next()), 0);
        Edge.due("it is known", run.count(0), 6);
    }

    private static void refused() {
        Run run = new Run();
        Kit.Block block = run.next();
        block.bits = 0;
        Edge.due("23", run.code(block), 23);
        Kit.Block faulty = run.next();
        faulty.txs.get(0).outs.clear();
        Edge.due("28", run.code(faulty.mine()), 28);
        Edge.due("21", run.code(noParent()), -1);
        Edge.due("none is known", run.count(0), 1);
        Edge.due("none is bad", run.count(5), 0);
        Edge.due("behind one of them", run.code(Run.behind(faulty)), -1);
    }
}
