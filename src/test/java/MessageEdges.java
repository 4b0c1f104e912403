import java.util.ArrayList;
import java.util.Arrays;
import java.util.Collections;
import java.util.List;

/** The edges of MESSAGES: peers, tape, frames, what is asked and answered, and who is told. */
final class MessageEdges {
    private static final String PEERS = "There are peers 0 .. 3.";
    private static final String TAPE = "The TAPE has bytes; feed() puts 20 behind it, send() uses it up.";
    private static final String MESSAGE = "A MESSAGE: a byte that is its KIND, and: 1 a transaction 2 a block 3 (WHAT IS BEHIND) "
            + "a byte n, 0 .. 20, and n names 4 (GIVE) a byte n, 1 .. 8, and n times a byte 1 (transaction) or 2 (block) and a "
            + "name 6 (I HAVE) likewise.";
    private static final String NAMES = "Names in messages are 32 bytes as they are.";
    private static final String FRAMES = "ANSWERS for a peer are FRAMES: two bytes, the size of what follows, the higher one "
            + "first, and a message: also 5 (HEADS): a byte n, and n heads; 7 (I HAVE NOT): a byte 1 or 2, and a name; 8 "
            + "(VERDICT): a byte, a CODE, and the name of what was sent (32 bytes 0 for code 1).";
    private static final String ROOM = "A frame with which more than 8000 bytes (with the two of its size) would wait for a peer "
            + "is left out.";
    private static final String BEHIND = "3: heads of the blocks behind the first of these names that is in the chain of the tip "
            + "(behind the first block, if there is none), in order, at most 16, maybe none.";
    private static final String GIVE = "4: each that there is, in the order asked: a transaction in the pool, or any block that "
            + "is known (also a bad one, but the first one), as message 1 or 2; for the others 7.";
    private static final String HAVE = "6: a GIVE for all of them that there are not (no frame if there are none); a transaction "
            + "counts as there if it is in the pool, a block if it is known (the first one, too).";
    private static final String TWICE = "What is named twice is answered twice.";
    private static final String ELSE = "Anything else, or a message that is not whole, or too long, or with another byte than 1 "
            + "and 2 there: a verdict of code 1, nothing else.";
    private static final String TOLD = "TOLD to all other peers, behind the answer: I HAVE with the transaction that came into "
            + "the pool (and stayed), when it was sent; I HAVE with the new tip, if a block that was sent made one.";
    private static final String CODE_1 = "0801" + "00".repeat(32);
    private static final byte[] UNKNOWN = Kit.repeated(9, 32);

    private MessageEdges() {
    }

    static void all() {
        Edge.of(3, PEERS, "each has its own answers", MessageEdges::peers);
        Edge.of(3, TAPE, "an empty tape, 20 bytes, two messages", MessageEdges::tape);
        Edge.of(3, MESSAGE, "kinds 0, 1, .. 9 and 255", MessageEdges::kinds);
        Edge.of(3, MESSAGE, "kind 3 with 0, 20 and 21 names", MessageEdges::manyNames);
        Edge.of(3, MESSAGE, "kinds 4 and 6 with 0, 1, 8 and 9 names", MessageEdges::manyItems);
        Edge.of(3, NAMES, "their first byte and their last one", MessageEdges::names);
        Edge.of(4, FRAMES, "sizes below 256 and above", MessageEdges::sizesOfFrames);
        Edge.of(4, FRAMES, "the name of a verdict, with code 1 and with others", MessageEdges::verdicts);
        Edge.of(4, ROOM, "8000 bytes and 8001", MessageEdges::room);
        Edge.of(4, ROOM, "a smaller one behind one that is left out", MessageEdges::smallerOne);
        Edge.of(4, ROOM, "what is taken makes room", MessageEdges::roomAgain);
        Edge.of(4, ROOM, "each peer has its own", MessageEdges::ownRoom);
        Edge.of(4, "To 1 and 2: a verdict.", "one, to the sender", MessageEdges::oneVerdict);
        Edge.of(3, BEHIND, "0, 1, 16 and 17 blocks behind it", MessageEdges::sixteen);
        Edge.of(3, BEHIND, "the first of several that is there", MessageEdges::firstOfNames);
        Edge.of(3, BEHIND, "no name, no such name, a block beside", MessageEdges::noSuchName);
        Edge.of(3, GIVE, "the first block, a bad one, one beside", MessageEdges::giveBlocks);
        Edge.of(3, GIVE, "a transaction in the pool, in the chain alone, one that was refused", MessageEdges::giveTransactions);
        Edge.of(3, GIVE, "a block asked for as a transaction, and the other way round", MessageEdges::giveOthers);
        Edge.of(3, HAVE, "all are there, none is", MessageEdges::haveAll);
        Edge.of(3, HAVE, "the first block, a bad one, a transaction in the chain alone", MessageEdges::haveSome);
        Edge.of(3, TWICE, "by 4 and by 6", MessageEdges::twice);
        Edge.of(3, ELSE, "not whole, too long", MessageEdges::notWhole);
        Edge.of(3, ELSE, "bytes 0 and 3, and far ones, in each place", MessageEdges::otherBytes);
        Edge.of(3, ELSE, "nothing else is done", MessageEdges::nothingElse);
        Edge.of(4, TOLD, "a transaction that came, and one that did not", MessageEdges::toldOfTransactions);
        Edge.of(4, TOLD, "one that came and did not stay", MessageEdges::notToldOfLeft);
        Edge.of(4, TOLD, "a new tip, and a block that is none", MessageEdges::toldOfTips);
        Edge.of(4, TOLD, "transactions that come again with a new tip", MessageEdges::notToldAgain);
    }

    private static void peers() {
        Run run = new Run();
        for (int peer = 0; peer < 4; peer++) {
            Edge.due("peer " + peer, run.ask(peer, Kit.bytes(4, 1, 1 + peer % 2), Kit.repeated(peer, 32)),
                    List.of("070" + (1 + peer % 2) + ("0" + peer).repeat(32)));
        }
        for (int peer = 0; peer < 4; peer++) {
            Edge.due("nothing more", run.fetch(peer), 0L);
        }
        run.feed(0x03000000, 0, 0, 0, 0);
        Edge.due("peer 4", run.send(4, 2), false);
        Edge.due("peer -1", run.send(-1, 2), false);
    }

    private static void tape() {
        Run run = new Run();
        Edge.due("empty", run.send(0, 1), false);
        run.feed(0x03000300, 0x03000300, 0, 0, 0);
        Edge.due("20", run.count(4), 20);
        Edge.due("the first two", run.send(0, 2), true);
        Edge.due("they are a message", run.answers(0), List.of("0500"));
        Edge.due("empty again", run.send(0, 2), false);
        Edge.due("no second message", run.fetch(0), 0L);
    }

    private static void kinds() {
        Run run = new Run();
        for (int kind : new int[] {0, 5, 7, 8, 9, 10, 127, 128, 129, 130, 131, 132, 134, 255}) {
            Edge.due("kind " + kind, run.ask(1, Kit.bytes(kind, 0)), List.of(CODE_1));
            run = run.calls > 450 ? new Run() : run;
            Edge.due("kind " + kind, run.ask(1, Kit.bytes(kind, 1, 1), UNKNOWN), List.of(CODE_1));
        }
        run = new Run();
        byte[] tx = Run.spendNothing().message();
        Edge.due("kind 1", run.ask(1, tx), List.of("0807" + Model.hex(Crypto.name(Arrays.copyOfRange(tx, 1, tx.length)))));
        Edge.due("kind 2", run.ask(1, Kit.first().message()), List.of("0814" + Model.hex(Kit.first().name())));
        Edge.due("kind 3", run.ask(1, Kit.bytes(3, 0)), List.of("0500"));
        Edge.due("kind 4", run.ask(1, Kit.bytes(4, 1, 1), UNKNOWN), List.of("0701" + Model.hex(UNKNOWN)));
        Edge.due("kind 6", run.ask(1, Kit.bytes(6, 1, 1), UNKNOWN), List.of("040101" + Model.hex(UNKNOWN)));
    }

    private static void manyNames() {
        Run run = new Run();
        for (int n : new int[] {0, 1, 19, 20}) {
            Edge.due(n + " names", run.ask(0, Kit.bytes(3, n), new byte[32 * n]), List.of("0500"));
        }
        Edge.due("21 names", run.ask(0, Kit.bytes(3, 21), new byte[32 * 21]), List.of(CODE_1));
        Edge.due("128 names", run.ask(0, Kit.bytes(3, 128), new byte[32]), List.of(CODE_1));
        Edge.due("255 names", run.ask(0, Kit.bytes(3, 255), new byte[32]), List.of(CODE_1));
    }

    private static byte[] items(int kind, int n) {
        byte[] out = Kit.bytes(kind, n);
        for (int i = 0; i < n; i++) {
            out = Kit.joined(out, Kit.bytes(1 + i % 2), Kit.repeated(16 + i, 32));
        }
        return out;
    }

    private static void manyItems() {
        for (int kind : new int[] {4, 6}) {
            Run run = new Run();
            Edge.due("0", run.ask(0, Kit.bytes(kind, 0)), List.of(CODE_1));
            Edge.due("0 and one", run.ask(0, Kit.bytes(kind, 0, 1), UNKNOWN), List.of(CODE_1));
            for (int n : new int[] {1, 8}) {
                List<String> due = new ArrayList<>();
                for (int i = 0; i < n; i++) {
                    due.add("070" + (1 + i % 2) + Integer.toHexString(16 + i).repeat(32));
                }
                List<String> give = List.of("04" + Model.hex(items(4, n)).substring(2));
                Edge.due(n + "", run.ask(0, items(kind, n)), kind == 4 ? due : give);
            }
            Edge.due("9", run.ask(0, items(kind, 9)), List.of(CODE_1));
            Edge.due("129", run.ask(0, Kit.bytes(kind, 129, 1), UNKNOWN), List.of(CODE_1));
            Edge.due("255", run.ask(0, Kit.bytes(kind, 255, 1), UNKNOWN), List.of(CODE_1));
        }
    }

    private static void names() {
        Run run = new Run().grow(1, 1);
        run.answers(0);
        byte[] name = run.tip().name();
        for (int at : new int[] {0, 31}) {
            byte[] other = name.clone();
            other[at] ^= (byte) 128;
            Edge.due("another byte " + at, run.ask(0, Kit.bytes(6, 1, 2), other), List.of("040102" + Model.hex(other)));
        }
        Edge.due("as it is", run.ask(0, Kit.bytes(6, 1, 2), name), List.of());
        byte[] back = new byte[32];
        for (int i = 0; i < 32; i++) {
            back[i] = name[31 - i];
        }
        Edge.due("the last byte first", run.ask(0, Kit.bytes(4, 1, 2), back), List.of("0702" + Model.hex(back)));
        Edge.due("as it is", run.ask(0, Kit.bytes(4, 1, 2), name), List.of(Model.hex(run.tip().message())));
    }

    private static void sizesOfFrames() {
        Run run = new Run().grow(3, 1);
        run.answers(0);
        run.send(0, Kit.joined(Kit.bytes(3, 1), run.chain.get(3).name()));
        Edge.due("2", run.fetch(0), 0x0400020500000000L);
        run.send(0, Kit.joined(Kit.bytes(3, 1), run.chain.get(2).name()));
        Edge.due("82", Model.hex(Arrays.copyOf(run.fetchAll(0), 4)), "00520501");
        run.send(0, Kit.bytes(3, 0));
        Edge.due("242", Model.hex(Arrays.copyOf(run.fetchAll(0), 4)), "00f20503");
        run.add(run.next());
        run.answers(0);
        run.send(0, Kit.bytes(3, 0));
        Edge.due("322", Model.hex(Arrays.copyOf(run.fetchAll(0), 4)), "01420504");
        // a block as long as can be told: 256 and 255
        for (int size : new int[] {255, 256}) {
            run = new Run();
            Kit.Block block = run.next();
            block.txs.get(0).out(0, Coin.times(size - block.message().length - 9, 97));
            Edge.due("size", block.message().length, size);
            run.put(block.mine());
            run.answers(0);
            run.send(0, Kit.joined(Kit.bytes(4, 1, 2), block.name()));
            Edge.due("a block", Model.hex(Arrays.copyOf(run.fetchAll(0), 3)), size == 255 ? "00ff02" : "010002");
        }
    }

    private static void verdicts() {
        Run run = Run.ripe(1);
        run.answers(0);
        Kit.Tx tx = run.spend(1, 0).out(1);
        byte[] cut = Arrays.copyOf(tx.message(), tx.message().length - 1);
        Edge.due("code 1", run.ask(0, cut), List.of(CODE_1));
        Edge.due("code 0", run.ask(0, tx.message()), List.of("0800" + Model.hex(tx.name())));
        Edge.due("code 12", run.ask(0, tx.message()), List.of("080c" + Model.hex(tx.name())));
        Kit.Tx none = new Kit.Tx();
        Edge.due("code 2", run.ask(0, none.message()), List.of("0802" + Model.hex(none.name())));
        Kit.Block block = run.next();
        Edge.due("a block's code 1", run.ask(0, Arrays.copyOf(block.message(), 90)), List.of(CODE_1));
        Edge.due("a block's code 0", run.ask(0, block.message()), List.of("0800" + Model.hex(block.name())));
        Edge.due("a block's code 20", run.ask(0, block.message()), List.of("0814" + Model.hex(block.name())));
    }

    /** A block at height 1 whose message has so many bytes. */
    private static Kit.Block sized(int size) {
        Kit.Block block = Run.behind(Kit.first());
        Kit.Tx root = block.txs.get(0);
        root.outs.clear();
        for (int i = 0; i < 7; i++) {
            root.outs.add(new Kit.Out(i, Kit.repeated(97, 200)));
        }
        root.outs.get(6).script = Kit.repeated(97, 200 - (block.message().length - size));
        return block.mine();
    }

    private static byte[] give(Kit.Block block, int often) {
        byte[] out = Kit.bytes(4, often);
        for (int i = 0; i < often; i++) {
            out = Kit.joined(out, Kit.bytes(2), block.name());
        }
        return out;
    }

    /** A long run, as so many bytes can't be fetched in 512 calls: one block of 1598 bytes is known, another of 1599. */
    private static Run full(Kit.Block even, Kit.Block odd) {
        Run run = new Run(true);
        Edge.due("size", even.message().length, 1598);
        Edge.due("size", odd.message().length, 1599);
        run.put(even, odd);
        Edge.due("known", run.count(0), 3);
        for (int peer = 0; peer < 4; peer++) {
            run.answers(peer);
        }
        return run;
    }

    private static void room() {
        Kit.Block even = sized(1598);
        Kit.Block odd = sized(1599);
        Run run = full(even, odd);
        run.send(0, give(even, 5));
        Edge.due("8000", run.fetchAll(0).length, 8000);
        run.send(0, give(even, 4));
        run.send(0, give(odd, 1));
        Edge.due("8001", run.fetchAll(0).length, 6400);
        run.send(0, give(even, 6));
        Edge.due("the sixth", run.fetchAll(0).length, 8000);
    }

    private static void smallerOne() {
        Kit.Block even = sized(1598);
        Kit.Block odd = sized(1599);
        Run run = full(even, odd);
        run.send(0, give(even, 4));
        run.send(0, give(odd, 2));
        run.send(0, give(even, 1));
        run.send(0, Kit.bytes(3, 0));
        List<String> answers = run.answers(0);
        Edge.due("just 8000", answers, Collections.nCopies(5, Model.hex(even.message())));
        run.send(0, give(odd, 4));
        run.send(0, give(even, 1));
        // 6404 and 1600 are 8004; 36 bytes have room
        run.send(0, Kit.bytes(0));
        Edge.due("a verdict", run.answers(0).get(4), CODE_1);
        run.send(0, give(even, 4));
        for (int i = 0; i < 45; i++) {
            run.send(0, Kit.bytes(0));
        }
        // 6400 and 44 times 36 are 7984: four times 4 have room
        for (int i = 0; i < 5; i++) {
            run.send(0, Kit.joined(Kit.bytes(3, 1), even.name()));
        }
        List<String> last = run.answers(0);
        Edge.due("four, 44 and four", last.size(), 4 + 44 + 4);
        Edge.due("the last", last.get(51), "0500");
    }

    private static void roomAgain() {
        Kit.Block even = sized(1598);
        Kit.Block odd = sized(1599);
        Run run = full(even, odd);
        run.send(0, give(even, 5));
        Edge.due("7 are taken", run.fetch(0) >>> 56, 7L);
        run.send(0, Kit.bytes(0));
        run.send(0, Kit.joined(Kit.bytes(3, 1), even.name()));
        run.send(0, Kit.joined(Kit.bytes(3, 1), even.name()));
        Edge.due("one of 4 has room, of 36 none", run.fetchAll(0).length, 8000 - 7 + 4);
    }

    private static void ownRoom() {
        Kit.Block even = sized(1598);
        Kit.Block odd = sized(1599);
        Run run = full(even, odd);
        run.send(2, give(even, 5));
        Kit.Block next = Run.behind(even);
        run.send(1, next.message());
        Edge.due("the sender", run.answers(1), List.of("0800" + Model.hex(next.name())));
        String have = "060102" + Model.hex(next.name());
        Edge.due("another is told", run.answers(0), List.of(have));
        Edge.due("another is told", run.answers(3), List.of(have));
        Edge.due("the full one is not", run.fetchAll(2).length, 8000);
    }

    private static void oneVerdict() {
        Run run = new Run();
        Edge.due("a transaction", run.ask(3, Run.spendNothing().message()).size(), 1);
        Edge.due("a block", run.ask(3, run.next(Run.spendNothing()).message()).size(), 1);
        for (int peer = 0; peer < 3; peer++) {
            Edge.due("nobody else", run.fetch(peer), 0L);
        }
        // but for a block whose parent is not known
        Kit.Block orphan = run.next();
        orphan.parent = UNKNOWN;
        Edge.due("no verdict", run.ask(3, orphan.message()), List.of("0301" + Model.hex(Kit.first().name())));
    }

    private static String heads(Run run, int from, int to) {
        StringBuilder out = new StringBuilder(String.format("05%02x", Math.max(0, to - from + 1)));
        for (int height = from; height <= to; height++) {
            out.append(Model.hex(run.chain.get(height).head()));
        }
        return out.toString();
    }

    private static byte[] behind(Run run, int... heights) {
        byte[] out = Kit.bytes(3, heights.length);
        for (int height : heights) {
            out = Kit.joined(out, height < 0 ? UNKNOWN : run.chain.get(height).name());
        }
        return out;
    }

    private static void sixteen() {
        int[][] tries = {{17, 0, 16}, {17, 1, 17}, {17, 2, 17}, {16, 0, 16}, {3, 2, 3}, {3, 3, 2}, {0, 0, 0}};
        for (int[] one : tries) {
            Run run = new Run().grow(one[0], 1);
            run.answers(0);
            Edge.due("behind " + one[1] + " of " + one[0], run.ask(0, behind(run, one[1])), List.of(heads(run, one[1] + 1, one[2])));
        }
    }

    private static void firstOfNames() {
        Run run = new Run().grow(5, 1);
        run.answers(0);
        Edge.due("the first of two", run.ask(0, behind(run, 3, 4)), List.of(heads(run, 4, 5)));
        Edge.due("not the highest", run.ask(0, behind(run, 4, 3)), List.of(heads(run, 5, 5)));
        Edge.due("behind unknown ones", run.ask(0, behind(run, -1, -1, 4, 2)), List.of(heads(run, 5, 5)));
        Edge.due("the first block before others", run.ask(0, behind(run, 0, 4)), List.of(heads(run, 1, 5)));
        int[] last = new int[20];
        Arrays.fill(last, -1);
        last[19] = 4;
        Edge.due("the twentieth", run.ask(0, behind(run, last)), List.of(heads(run, 5, 5)));
    }

    private static void noSuchName() {
        Run run = new Run().grow(2, 1);
        Kit.Block beside = Run.behind(run.chain.get(1));
        Kit.Block bad = run.next(Run.spendNothing());
        run.put(beside, bad);
        Edge.due("known", run.count(0), 5);
        run.answers(0);
        Edge.due("no names", run.ask(0, behind(run)), List.of(heads(run, 1, 2)));
        Edge.due("unknown", run.ask(0, behind(run, -1)), List.of(heads(run, 1, 2)));
        Edge.due("beside", run.ask(0, Kit.bytes(3, 1), beside.name()), List.of(heads(run, 1, 2)));
        Edge.due("bad", run.ask(0, Kit.bytes(3, 1), bad.name()), List.of(heads(run, 1, 2)));
        Edge.due("beside, and then one that is there", run.ask(0, Kit.bytes(3, 2), beside.name(), run.chain.get(1).name()),
                List.of(heads(run, 2, 2)));
    }

    private static void giveBlocks() {
        Run run = new Run().grow(2, 1);
        Kit.Block beside = Run.behind(run.chain.get(1));
        Kit.Block bad = run.next(Run.spendNothing());
        run.put(beside, bad);
        Edge.due("bad", run.count(5), 1);
        run.answers(0);
        byte[] first = Kit.first().name();
        Edge.due("the first block", run.ask(0, Kit.bytes(4, 1, 2), first), List.of("0702" + Model.hex(first)));
        Edge.due("a bad one", run.ask(0, Kit.bytes(4, 1, 2), bad.name()), List.of(Model.hex(bad.message())));
        Edge.due("in the order asked", run.ask(0, Kit.bytes(4, 3, 2), beside.name(), Kit.bytes(2), UNKNOWN, Kit.bytes(2),
                run.tip().name()), List.of(Model.hex(beside.message()), "0702" + Model.hex(UNKNOWN),
                Model.hex(run.tip().message())));
        Kit.Block refused = run.next();
        refused.txs.clear();
        run.put(refused.mine());
        run.answers(0);
        Edge.due("one that was refused", run.ask(0, Kit.bytes(4, 1, 2), refused.name()),
                List.of("0702" + Model.hex(refused.name())));
    }

    private static void giveTransactions() {
        Run run = Run.ripe(2);
        Kit.Tx waits = run.spend(1, 0).out(1);
        Kit.Tx refused = run.spend(1, 0).out(2);
        run.put(waits, refused);
        run.answers(0);
        Edge.due("in the pool", run.ask(0, Kit.bytes(4, 1, 1), waits.name()), List.of("01" + Model.hex(waits.bytes())));
        Edge.due("refused", run.ask(0, Kit.bytes(4, 1, 1), refused.name()), List.of("0701" + Model.hex(refused.name())));
        byte[] root = run.root(1).name();
        Edge.due("in the chain alone", run.ask(0, Kit.bytes(4, 1, 1), root), List.of("0701" + Model.hex(root)));
        run.put(run.next(waits));
        run.answers(0);
        Edge.due("gone from the pool", run.ask(0, Kit.bytes(4, 1, 1), waits.name()), List.of("0701" + Model.hex(waits.name())));
    }

    private static void giveOthers() {
        Run run = Run.ripe(1);
        Kit.Tx waits = run.spend(1, 0).out(1);
        run.put(waits);
        run.answers(0);
        byte[] tip = run.tip().name();
        Edge.due("a block as a transaction", run.ask(0, Kit.bytes(4, 1, 1), tip), List.of("0701" + Model.hex(tip)));
        Edge.due("a transaction as a block", run.ask(0, Kit.bytes(4, 1, 2), waits.name()),
                List.of("0702" + Model.hex(waits.name())));
        Edge.due("I have a block as a transaction", run.ask(0, Kit.bytes(6, 1, 1), tip), List.of("040101" + Model.hex(tip)));
        Edge.due("I have a transaction as a block", run.ask(0, Kit.bytes(6, 1, 2), waits.name()),
                List.of("040102" + Model.hex(waits.name())));
    }

    private static void haveAll() {
        Run run = Run.ripe(1);
        Kit.Tx waits = run.spend(1, 0).out(1);
        run.put(waits);
        run.answers(0);
        Edge.due("one that is there", run.ask(0, Kit.bytes(6, 1, 1), waits.name()), List.of());
        byte[] eight = Kit.bytes(6, 8);
        for (int i = 0; i < 8; i++) {
            eight = Kit.joined(eight, Kit.bytes(2), run.chain.get(i).name());
        }
        Edge.due("eight that are there", run.ask(0, eight), List.of());
        Edge.due("eight that are not", run.ask(0, items(6, 8)), List.of("04" + Model.hex(items(6, 8)).substring(2)));
        Edge.due("the second of three is not", run.ask(0, Kit.bytes(6, 3, 2), run.tip().name(), Kit.bytes(2), UNKNOWN,
                Kit.bytes(1), waits.name()), List.of("040102" + Model.hex(UNKNOWN)));
    }

    private static void haveSome() {
        Run run = Run.ripe(1);
        Kit.Block bad = run.next(Run.spendNothing());
        Kit.Block beside = Run.behind(run.chain.get(3));
        run.put(bad, beside);
        run.answers(0);
        Edge.due("the first", run.ask(0, Kit.bytes(6, 1, 2), Kit.first().name()), List.of());
        Edge.due("a bad one", run.ask(0, Kit.bytes(6, 1, 2), bad.name()), List.of());
        Edge.due("one beside", run.ask(0, Kit.bytes(6, 1, 2), beside.name()), List.of());
        byte[] root = run.root(1).name();
        Edge.due("in the chain alone", run.ask(0, Kit.bytes(6, 1, 1), root), List.of("040101" + Model.hex(root)));
    }

    private static void twice() {
        Run run = new Run().grow(1, 1);
        run.answers(0);
        byte[] name = run.tip().name();
        String block = Model.hex(run.tip().message());
        String not = "0702" + Model.hex(UNKNOWN);
        Edge.due("given twice", run.ask(0, Kit.bytes(4, 4, 2), name, Kit.bytes(2), UNKNOWN, Kit.bytes(2), name, Kit.bytes(2),
                UNKNOWN), List.of(block, not, block, not));
        String one = "02" + Model.hex(UNKNOWN);
        Edge.due("asked for twice", run.ask(0, Kit.bytes(6, 3, 2), UNKNOWN, Kit.bytes(2), name, Kit.bytes(2), UNKNOWN),
                List.of("0402" + one + one));
        Edge.due("eight times", run.ask(0, Kit.joined(give(run.tip(), 8))), Collections.nCopies(8, block));
    }

    private static void notWhole() {
        Run run = new Run();
        List<String> wrong = List.of(CODE_1);
        for (int kind : new int[] {1, 2, 3, 4, 6}) {
            Edge.due("bare " + kind, run.ask(0, Kit.bytes(kind)), wrong);
        }
        Edge.due("3, cut", run.ask(0, Kit.bytes(3, 1), new byte[31]), wrong);
        Edge.due("3, too long", run.ask(0, Kit.bytes(3, 1), new byte[33]), wrong);
        Edge.due("3 without names, too long", run.ask(0, Kit.bytes(3, 0, 0)), wrong);
        Edge.due("3, one name for two", run.ask(0, Kit.bytes(3, 2), new byte[32]), wrong);
        for (int kind : new int[] {4, 6}) {
            Edge.due("cut", run.ask(0, Kit.bytes(kind, 1, 1), new byte[31]), wrong);
            Edge.due("too long", run.ask(0, Kit.bytes(kind, 1, 1), new byte[33]), wrong);
            Edge.due("one for two", run.ask(0, Kit.bytes(kind, 2, 1), new byte[32]), wrong);
            Edge.due("two for one", run.ask(0, Kit.bytes(kind, 1, 1), new byte[32], Kit.bytes(1), new byte[32]), wrong);
            Edge.due("no name", run.ask(0, Kit.bytes(kind, 1)), wrong);
            Edge.due("no name but its kind", run.ask(0, Kit.bytes(kind, 1, 1)), wrong);
        }
        byte[] tx = Run.spendNothing().message();
        Edge.due("a transaction, too long", run.ask(0, tx, Kit.bytes(0)), wrong);
        Edge.due("two transactions", run.ask(0, tx, tx), wrong);
        Edge.due("a block, too long", run.ask(0, run.next().message(), Kit.bytes(0)), wrong);
    }

    private static void otherBytes() {
        for (int kind : new int[] {4, 6}) {
            Run run = new Run();
            for (int other : new int[] {0, 3, 128, 129, 130, 255}) {
                Edge.due("alone", run.ask(0, Kit.bytes(kind, 1, other), UNKNOWN), List.of(CODE_1));
            }
            for (int at = 0; at < 8; at++) {
                byte[] eight = items(kind, 8);
                eight[2 + 33 * at] = 3;
                Edge.due("in place " + at, run.ask(0, eight), List.of(CODE_1));
            }
        }
    }

    private static void nothingElse() {
        Run run = new Run().grow(1, 1);
        run.answers(0);
        for (int peer = 1; peer < 4; peer++) {
            run.answers(peer);
        }
        byte[] items = Kit.joined(Kit.bytes(4, 2, 2), run.tip().name(), Kit.bytes(3), UNKNOWN);
        Edge.due("no block", run.ask(0, items), List.of(CODE_1));
        items[0] = 6;
        Edge.due("no give", run.ask(0, items), List.of(CODE_1));
        Kit.Block next = run.next();
        Edge.due("no verdict of it", run.ask(0, next.message(), Kit.bytes(0)), List.of(CODE_1));
        Edge.due("it is not known", run.count(0), 2);
        for (int peer = 1; peer < 4; peer++) {
            Edge.due("nobody is told", run.fetch(peer), 0L);
        }
        Edge.due("the tape is used up", run.count(4), 0);
    }

    private static void toldOfTransactions() {
        Run run = Run.ripe(1);
        for (int peer = 0; peer < 4; peer++) {
            run.answers(peer);
        }
        Kit.Tx tx = run.spend(1, 0).out(1);
        Edge.due("the sender", run.ask(2, tx.message()), List.of("0800" + Model.hex(tx.name())));
        for (int peer : new int[] {0, 1, 3}) {
            Edge.due("peer " + peer, run.answers(peer), List.of("060101" + Model.hex(tx.name())));
        }
        run.ask(2, tx.message());
        run.ask(2, Run.spendNothing().message());
        run.ask(2, Kit.bytes(1, 1));
        for (int peer = 0; peer < 4; peer++) {
            Edge.due("nothing of those that are refused", run.fetch(peer), 0L);
        }
    }

    private static void notToldOfLeft() {
        Wide wide = new Wide();
        Run run = wide.fillByBranch(wide.forty(1000)).run;
        run.answers(2);
        Kit.Tx poor = wide.pay(40, 1);
        Edge.due("the sender", run.ask(1, poor.message()), List.of("080b" + Model.hex(poor.name())));
        Edge.due("nobody else", run.fetch(2), 0L);
        Kit.Tx rich = wide.pay(40, 2000);
        Edge.due("the sender", run.ask(1, rich.message()), List.of("0800" + Model.hex(rich.name())));
        Edge.due("another, of this one alone", run.answers(2), List.of("060101" + Model.hex(rich.name())));
    }

    private static void toldOfTips() {
        Run run = new Run();
        Kit.Block one = run.next();
        Edge.due("the sender", run.ask(0, one.message()), List.of("0800" + Model.hex(one.name())));
        for (int peer = 1; peer < 4; peer++) {
            Edge.due("peer " + peer, run.answers(peer), List.of("060102" + Model.hex(one.name())));
        }
        Kit.Block beside = run.next();
        Kit.Block bad = Run.behind(one, Run.spendNothing());
        Edge.due("one beside", run.code(beside), 0);
        Edge.due("a bad one", run.code(bad), 31);
        Edge.due("one that is known", run.code(one), 20);
        for (int peer = 1; peer < 4; peer++) {
            Edge.due("no new tip", run.fetch(peer), 0L);
        }
        Kit.Block over = Run.behind(beside);
        run.ask(3, over.message());
        Edge.due("over to another branch: the tip alone", run.answers(0), List.of("060102" + Model.hex(over.name())));
    }

    private static void notToldAgain() {
        Run run = Run.ripe(2);
        Kit.Block below = run.tip();
        run.add(run.next(run.spend(1, 0).out(1)));
        run.put(run.spend(1, 1).out(1));
        Kit.Block beside = Run.behind(below);
        Kit.Block over = Run.behind(beside);
        run.put(beside);
        run.answers(1);
        run.put(over);
        Edge.due("both wait", run.count(3), 2);
        Edge.due("the tip alone is told", run.answers(1), List.of("060102" + Model.hex(over.name())));
    }
}
