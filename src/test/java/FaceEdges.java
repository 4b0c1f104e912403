import java.util.Arrays;
import java.util.List;

/** The edges of the methods: the sections "Promise 1" to "Promise 10", and what is said of all of them. */
final class FaceEdges {
    private static final String FED = "20 bytes come behind the tape, the highest of a first: true;";
    private static final String SENT = "The first n bytes of the tape are a message of a peer, the tape is empty then: true;";
    private static final String NOT_SENT = "false, refused, if there is no such peer, or n is not 1 .. the bytes that there are.";
    private static final String FETCHED = "The next bytes of a peer's answers, at most 7, which are taken: "
            + "in the highest byte how many, then these, the first one highest;";
    private static final String REFUSED = "A call that is refused changes nothing.";
    private static final String VALUE = "The value of the coin of the key in hand in the chain of the tip;";
    private static final int[] NO_PEERS = {-1, 4, 5, Integer.MAX_VALUE, Integer.MIN_VALUE};

    private FaceEdges() {
    }

    static void all() {
        Edge.of(1, "An object is used for at most 512 calls after it has been made; what later calls answer is free.",
                "the 512th call is answered as the first", FaceEdges::lastCall);
        Edge.of(1, "All memory is the class's own.", "two objects know nothing of one another", FaceEdges::twoObjects);
        Edge.of(2, REFUSED, "a feed for which there is no room", FaceEdges::refusedFeed);
        Edge.of(3, REFUSED, "a send of no peer, or of too few or too many bytes", FaceEdges::refusedSend);
        Edge.of(1, "The first block is the tip; no coins, an empty pool.", "before any other call", FaceEdges::newObject);
        Edge.of(2, FED, "the bytes of a, .. of e, and of two calls", FaceEdges::orderOfBytes);
        Edge.of(2, FED, "the highest bit of a byte", FaceEdges::highBits);
        Edge.of(2, "false if more than 2000 would be there.", "2000 and more", FaceEdges::fullTape);
        Edge.of(3, SENT, "the first byte alone, all bytes, and what is left", FaceEdges::partsOfTheTape);
        Edge.of(3, SENT, "a message of 2000 bytes", FaceEdges::longestMessage);
        Edge.of(3, NOT_SENT, "peers -1, 0, 3, 4", FaceEdges::peers);
        Edge.of(3, NOT_SENT, "n is 0, 1, the bytes that there are, and one more", FaceEdges::numbersOfBytes);
        Edge.of(4, FETCHED, "more than 7, 7, fewer", FaceEdges::sevenBytes);
        Edge.of(4, "0 if there are none, or no such peer.", "none", FaceEdges::nothingToFetch);
        Edge.of(4, "0 if there are none, or no such peer.", "no such peer", FaceEdges::nobodyFetches);
        Edge.of(5, "Eight bytes (from byte 8 * k on, k 0 .. 3, the first one highest) of the name of the block of a height "
                + "in the chain of the tip;", "k from 0 to 3, heights from 0 to the tip's", FaceEdges::partsOfNames);
        Edge.of(5, "0 if there is none.", "k -1 and 4", FaceEdges::noSuchPart);
        Edge.of(5, "0 if there is none.", "heights -1 and above the tip's", FaceEdges::noSuchHeight);
        Edge.of(6, "The key in hand: a name, the highest byte of a its first one, and an index, without a sign;",
                "each byte of the name counts", FaceEdges::bytesOfTheKey);
        Edge.of(6, "The key in hand: a name, the highest byte of a its first one, and an index, without a sign;",
                "an index from 2 ^ 31 on", FaceEdges::indexOfTheKey);
        Edge.of(6, "at first all 0.", "no key was given", FaceEdges::keyAtFirst);
        Edge.of(7, VALUE, "a coin of value 0 is one", FaceEdges::coinOfNothing);
        Edge.of(7, "-1 if there is none.", "not made, spent, only in the pool, only in another branch", FaceEdges::noCoin);
        Edge.of(8, "The sum of the values of all coins.", "no coins, coins of value 0, spent coins", FaceEdges::sums);
        Edge.of(9, "0 how many blocks are known,", "the first, bad ones, refused ones", FaceEdges::knownBlocks);
        Edge.of(9, "1 the height of the tip,", "0 at first; a branch that is not longer", FaceEdges::heightOfTheTip);
        Edge.of(9, "2 how many coins there are,", "none, of value 0, spent", FaceEdges::manyCoins);
        Edge.of(9, "3 how many transactions are in the pool,", "none, refused ones, in a block", FaceEdges::manyWaiting);
        Edge.of(9, "4 bytes on the tape,", "0 to 2000", FaceEdges::bytesOnTheTape);
        Edge.of(9, "5 bad blocks;", "none, behind a bad one", FaceEdges::badBlocks);
        Edge.of(9, "-1 for another what.", "-1, 6 and far away", FaceEdges::otherCounts);
        Edge.of(10, "The sum of the fees of all in the pool.", "an empty pool, no fee, gone again", FaceEdges::sumOfFees);
    }

    private static void lastCall() {
        Run run = Run.ripe(8);
        while (run.calls < 510) {
            run.feed(1, 2, 3, 4, 5);
        }
        Edge.due("the 511th call", run.value(run.root(1), 7), Run.RICH);
        Edge.due("calls", run.calls, 512);
    }

    private static void twoObjects() {
        Run one = new Run();
        Run two = new Run();
        one.feed(1, 2, 3, 4, 5);
        Edge.due("the tape of the other", two.count(4), 0);
        one.send(0, 1);
        Edge.due("the answers of the other", two.fetch(0), 0L);
        one.answers(0);
        one.lay(Kit.joined(Kit.bytes(4, 1, 1), Kit.repeated(7, 32)));
        two.lay(Kit.joined(Kit.bytes(4, 1, 2), Kit.repeated(8, 32)));
        one.send(0, 35);
        two.send(0, 35);
        Edge.due("its own tape", one.answers(0), List.of("0701" + "07".repeat(32)));
        Edge.due("its own tape", two.answers(0), List.of("0702" + "08".repeat(32)));
        Kit.Block block = one.next();
        one.put(block);
        Edge.due("one has it", one.count(0), 2);
        Edge.due("the other does not", two.count(0), 1);
        Edge.due("a coin", one.value(block.txs.get(0), 0), 1L);
        Edge.due("no coin", two.value(block.txs.get(0), 0), -1L);
        Edge.due("its key stays its own", one.node.value(), 1L);
    }

    private static void refusedFeed() {
        byte[] message = sized(2000);
        Run run = new Run();
        run.lay(message);
        Edge.due("full", run.feed(-1, -1, -1, -1, -1), false);
        Edge.due("bytes", run.count(4), 2000);
        run.send(0, 2000);
        Edge.due("every byte is what it was", run.answers(0), List.of("081f" + nameOf(message)));
    }

    private static void refusedSend() {
        Run run = new Run();
        run.feed(0x03000000, 7, 7, 7, 7);
        for (int peer : NO_PEERS) {
            Edge.due("peer " + peer, run.send(peer, 2), false);
        }
        for (int n : new int[] {0, -1, 21, Integer.MAX_VALUE, Integer.MIN_VALUE}) {
            Edge.due("n " + n, run.send(1, n), false);
        }
        Edge.due("bytes", run.count(4), 20);
        for (int peer = 0; peer < 4; peer++) {
            Edge.due("answers", run.fetch(peer), 0L);
        }
        Edge.due("and now", run.send(1, 2), true);
        Edge.due("the message is what it was", run.fetch(1), 0x0400020500000000L);
    }

    private static void newObject() {
        Run run = new Run();
        run.tip("at first", Kit.first());
        Edge.due("height", run.count(1), 0);
        Edge.due("coins", run.count(2), 0);
        Edge.due("total", run.total(), 0L);
        Edge.due("pool", run.count(3), 0);
        Edge.due("fees", run.fees(), 0L);
        Edge.due("known", run.count(0), 1);
        Edge.due("bad", run.count(5), 0);
        Edge.due("tape", run.count(4), 0);
        for (int peer = 0; peer < 4; peer++) {
            Edge.due("answers", run.fetch(peer), 0L);
        }
    }

    private static void orderOfBytes() {
        Run run = new Run();
        run.feed(0x04010101, 0x02030405, 0x06070809, 0x0a0b0c0d, 0x0e0f1011);
        run.feed(0x12131415, 0x16171819, 0x1a1b1c1d, 0x1e1f2021, 0x22232425);
        Edge.due("sent", run.send(0, 35), true);
        Edge.due("in their order", run.answers(0), List.of("0701"
                + "0102030405060708090a0b0c0d0e0f101112131415161718191a1b1c1d1e1f20"));
    }

    private static void highBits() {
        Run run = new Run();
        run.feed(0x040102ff, 0x80ff7f00, 0xffffffff, 0x80808080, 0x7fffffff);
        run.feed(-1, -2, Integer.MIN_VALUE, -256, 0);
        Edge.due("sent", run.send(0, 35), true);
        Edge.due("without a sign", run.answers(0), List.of("0702"
                + "ff80ff7f00ffffffff808080807ffffffffffffffffffffffe80000000ffffff"));
    }

    private static void fullTape() {
        Run run = new Run();
        for (int i = 1; i <= 100; i++) {
            Edge.due("up to " + 20 * i, run.feed(i, i, i, i, i), true);
        }
        Edge.due("2000 are there", run.count(4), 2000);
        Edge.due("2020", run.feed(1, 1, 1, 1, 1), false);
        Edge.due("2000 are there", run.count(4), 2000);
        Edge.due("used up", run.send(0, 1), true);
        Edge.due("room again", run.feed(1, 1, 1, 1, 1), true);
    }

    private static void partsOfTheTape() {
        Run run = new Run();
        run.feed(0x03000300, 0x03000300, 0x03000300, 0x03000300, 0x03000300);
        Edge.due("one byte", run.send(0, 1), true);
        Edge.due("it is not whole", run.answers(0), List.of("0801" + "00".repeat(32)));
        Edge.due("what was behind it is gone", run.count(4), 0);
        run.feed(0x03000300, 0, 0, 0, 0);
        Edge.due("two bytes", run.send(0, 2), true);
        Edge.due("they are a message", run.answers(0), List.of("0500"));
        Edge.due("what was behind it is gone", run.count(4), 0);
        run.feed(0x03010000, 0, 0, 0, 0);
        run.feed(0, 0, 0, 0, 0);
        Edge.due("all bytes", run.send(0, 40), true);
        Edge.due("they are too many", run.answers(0), List.of("0801" + "00".repeat(32)));
        Edge.due("none are left", run.count(4), 0);
    }

    /** The message of a block behind the first one that is right but for a key that has no coin. */
    private static byte[] sized(int size) {
        Kit.Tx tx = Run.spendNothing();
        tx.ins.get(0).script = Kit.repeated(2, 200);
        tx.outs.clear();
        for (int i = 0; i < 8; i++) {
            tx.outs.add(new Kit.Out(i, Kit.repeated(3, 200)));
        }
        tx.time(0x7b7c7d7eL);
        Kit.Block block = Run.behind(Kit.first(), tx);
        int over = block.message().length - size;
        tx.outs.get(7).script = Kit.repeated(3, 200 - over);
        return block.mine().message();
    }

    private static String nameOf(byte[] message) {
        return Model.hex(Crypto.name(Arrays.copyOfRange(message, 1, 81)));
    }

    private static void longestMessage() {
        for (int size : new int[] {1981, 1999, 2000}) {
            byte[] message = sized(size);
            Run run = new Run();
            run.lay(message);
            Edge.due("all " + size, run.send(2, message.length), true);
            Edge.due("it is read whole", run.answers(2), List.of("081f" + nameOf(message)));
            Edge.due("and known", run.count(0), 2);
        }
    }

    private static void peers() {
        Run run = new Run();
        run.feed(0x03000000, 0, 0, 0, 0);
        for (int peer : NO_PEERS) {
            Edge.due("peer " + peer, run.send(peer, 2), false);
        }
        for (int peer = 0; peer < 4; peer++) {
            Edge.due("peer " + peer, run.send(peer, 2), true);
            for (int other = 0; other < 4; other++) {
                Edge.due("its answer", run.fetch(other), other == peer ? 0x0400020500000000L : 0L);
            }
            run.feed(0x03000000, 0, 0, 0, 0);
        }
    }

    private static void numbersOfBytes() {
        Run run = new Run();
        for (int n : new int[] {0, 1, -1}) {
            Edge.due("nothing there, n " + n, run.send(0, n), false);
        }
        run.feed(0, 0, 0, 0, 0);
        for (int n : new int[] {0, -1, 21, 2000, Integer.MIN_VALUE, Integer.MAX_VALUE}) {
            Edge.due("n " + n, run.send(0, n), false);
        }
        Edge.due("n 20", run.send(0, 20), true);
        run.feed(0, 0, 0, 0, 0);
        Edge.due("n 1", run.send(0, 1), true);
        Edge.due("nothing there", run.send(0, 1), false);
        for (int i = 0; i < 100; i++) {
            run.feed(0, 0, 0, 0, 0);
        }
        Edge.due("n 2001", run.send(0, 2001), false);
        Edge.due("n 2000", run.send(0, 2000), true);
    }

    private static void sevenBytes() {
        Run run = new Run();
        run.feed(0x03000000, 0, 0, 0, 0);
        run.send(0, 2);
        Edge.due("4 are there", run.fetch(0), 0x0400020500000000L);
        Edge.due("they are taken", run.fetch(0), 0L);
        for (int i = 0; i < 7; i++) {
            run.feed(0x03000000, 0, 0, 0, 0);
            run.send(0, 2);
        }
        Edge.due("28 are there", run.fetch(0), 0x0700020500000205L);
        Edge.due("21 are there", run.fetch(0), 0x0700000205000002L);
        Edge.due("14 are there", run.fetch(0), 0x0705000002050000L);
        Edge.due("7 are there", run.fetch(0), 0x0702050000020500L);
        Edge.due("none are there", run.fetch(0), 0L);
        run.feed(0xff000000, 0, 0, 0, 0);
        run.send(0, 1);
        for (int i = 0; i < 5; i++) {
            Edge.due("36 are there", run.fetch(0) >>> 56, 7L);
        }
        Edge.due("one is there", run.fetch(0), 0x0100000000000000L);
        Edge.due("none are there", run.fetch(0), 0L);
    }

    private static void nothingToFetch() {
        Run run = new Run();
        Edge.due("before anything was sent", run.fetch(0), 0L);
        run.feed(0x03000000, 0, 0, 0, 0);
        run.send(0, 2);
        Edge.due("for another peer", run.fetch(1) | run.fetch(2) | run.fetch(3), 0L);
        run.fetch(0);
        Edge.due("all taken", run.fetch(0), 0L);
    }

    private static void nobodyFetches() {
        Run run = new Run();
        for (int peer = 0; peer < 4; peer++) {
            run.feed(0x03000000, 0, 0, 0, 0);
            run.send(peer, 2);
        }
        for (int peer : NO_PEERS) {
            Edge.due("peer " + peer, run.fetch(peer), 0L);
        }
        for (int peer = 0; peer < 4; peer++) {
            Edge.due("still there", run.fetch(peer), 0x0400020500000000L);
        }
    }

    private static void partsOfNames() {
        Run run = new Run().grow(3, 1);
        for (int height = 0; height <= 3; height++) {
            byte[] name = run.chain.get(height).name();
            for (int k = 0; k < 4; k++) {
                long due = Crypto.number(name, 8 * k, 8 * k + 8).longValue();
                Edge.due("height " + height + ", k " + k, run.block(height, k), due);
            }
        }
    }

    private static void noSuchPart() {
        Run run = new Run().grow(1, 1);
        for (int k : new int[] {-1, 4, 5, Integer.MAX_VALUE, Integer.MIN_VALUE}) {
            Edge.due("k " + k, run.block(0, k) | run.block(1, k), 0L);
        }
    }

    private static void noSuchHeight() {
        Run run = new Run();
        Edge.due("above the first block", run.block(1, 0), 0L);
        run.grow(2, 1);
        for (int height : new int[] {-1, 3, 4, 299, 300, 301, Integer.MAX_VALUE, Integer.MIN_VALUE}) {
            Edge.due("height " + height, run.block(height, 0), 0L);
        }
        // a block that is known, but beside the chain of the tip, and one that is bad
        run.put(Run.behind(run.chain.get(1)));
        Kit.Block bad = run.next();
        bad.txs.get(0).out(Kit.SUBSIDY);
        run.put(bad.mine());
        Edge.due("known", run.count(0), 5);
        run.tip("as before", run.tip());
        Edge.due("nothing above", run.block(3, 0), 0L);
    }

    private static void bytesOfTheKey() {
        Run run = new Run().grow(1, 1);
        byte[] name = run.root(1).name();
        Edge.due("the coin", run.value(name, 0), Run.RICH);
        for (int at = 0; at < 32; at++) {
            byte[] other = name.clone();
            other[at] ^= (byte) (1 << at % 8);
            Edge.due("another byte " + at, run.value(other, 0), -1L);
        }
        Edge.due("the coin", run.value(name, 0), Run.RICH);
    }

    private static void indexOfTheKey() {
        Run run = new Run().grow(1, 8);
        byte[] name = run.root(1).name();
        for (int index = 0; index < 8; index++) {
            Edge.due("index " + index, run.value(name, index), Run.RICH);
        }
        for (int index : new int[] {8, 256, -1, -8, Integer.MAX_VALUE, Integer.MIN_VALUE, Integer.MIN_VALUE + 1}) {
            Edge.due("index " + index, run.value(name, index), -1L);
        }
    }

    private static void keyAtFirst() {
        Run run = new Run();
        Edge.due("before any block", run.node.value(), -1L);
        run.grow(1, 8);
        Edge.due("when there are coins", run.node.value(), -1L);
        Edge.due("all 0", run.value(new byte[32], 0), -1L);
    }

    private static void coinOfNothing() {
        Run run = new Run();
        Kit.Block block = run.next();
        block.txs.get(0).outs.clear();
        block.txs.get(0).out(0).out(1).out(Kit.SUBSIDY - 1);
        run.add(block.mine());
        Edge.due("value 0", run.value(block.txs.get(0), 0), 0L);
        Edge.due("value 1", run.value(block.txs.get(0), 1), 1L);
        Edge.due("all that there may be", run.value(block.txs.get(0), 2), Kit.SUBSIDY - 1);
        Edge.due("no fourth", run.value(block.txs.get(0), 3), -1L);
    }

    private static void noCoin() {
        Run run = Run.ripe(2);
        Kit.Tx tx = run.spend(1, 0).out(5);
        run.put(tx);
        Edge.due("only in the pool", run.value(tx, 0), -1L);
        Edge.due("not spent yet", run.value(run.root(1), 0), Run.RICH);
        Kit.Block beside = Run.behind(run.chain.get(7));
        run.put(beside);
        Edge.due("only in another branch", run.value(beside.txs.get(0), 0), -1L);
        run.add(run.next(tx));
        Edge.due("made", run.value(tx, 0), 5L);
        Edge.due("spent", run.value(run.root(1), 0), -1L);
        Edge.due("not spent", run.value(run.root(1), 1), Run.RICH);
    }

    private static void sums() {
        Run run = new Run();
        Edge.due("no coins", run.total(), 0L);
        Kit.Block block = run.next();
        block.txs.get(0).outs.clear();
        block.txs.get(0).out(0);
        run.add(block.mine());
        Edge.due("a coin of value 0", run.total(), 0L);
        Edge.due("it is one", run.count(2), 1);
        run = Run.ripe(2);
        Edge.due("nine coins", run.total(), 2 * Run.RICH + 7);
        run.put(run.spend(1, 0).out(5));
        Edge.due("the pool does not count", run.total(), 2 * Run.RICH + 7);
        run.add(run.next(run.spend(1, 0).out(5)));
        Edge.due("one is spent, the fee is in none", run.total(), Run.RICH + 7 + 5 + 1);
    }

    private static void knownBlocks() {
        Run run = new Run();
        Edge.due("the first", run.count(0), 1);
        Kit.Block one = run.add(run.next());
        Edge.due("two", run.count(0), 2);
        run.put(one);
        Edge.due("one that is known", run.count(0), 2);
        Kit.Block refused = run.next();
        refused.txs.get(0).outs.clear();
        run.put(refused.mine());
        Edge.due("one that is refused", run.count(0), 2);
        run.put(run.next(Run.spendNothing()));
        Edge.due("a bad one", run.count(0), 3);
        run.put(Run.behind(Kit.first()));
        Edge.due("one beside", run.count(0), 4);
    }

    private static void heightOfTheTip() {
        Run run = new Run();
        Edge.due("the first", run.count(1), 0);
        run.add(run.next());
        Edge.due("one", run.count(1), 1);
        Kit.Block beside = Run.behind(Kit.first());
        run.put(beside);
        Edge.due("one beside", run.count(1), 1);
        run.put(Run.behind(beside, Run.spendNothing()));
        Edge.due("a bad one", run.count(1), 1);
        run.put(Run.behind(beside));
        Edge.due("two", run.count(1), 2);
    }

    private static void manyCoins() {
        Run run = new Run();
        Edge.due("none", run.count(2), 0);
        Kit.Block block = run.next();
        block.txs.get(0).outs.clear();
        block.txs.get(0).out(0).out(0);
        run.put(block.mine());
        Edge.due("two of value 0", run.count(2), 2);
        run = Run.ripe(3);
        Edge.due("ten", run.count(2), 10);
        run.add(run.next(run.spend(1, 0).in(run.root(1), 1, 81).out(5)));
        Edge.due("two spent, one and one made", run.count(2), 10);
    }

    private static void manyWaiting() {
        Run run = Run.ripe(2);
        Edge.due("none", run.count(3), 0);
        Kit.Tx tx = run.spend(1, 0).out(5);
        run.put(tx);
        Edge.due("one", run.count(3), 1);
        run.put(tx, run.spend(1, 0).out(6));
        Edge.due("refused ones", run.count(3), 1);
        run.put(run.spend(1, 1).out(5));
        Edge.due("two", run.count(3), 2);
        run.put(run.next(tx));
        Edge.due("one is in a block", run.count(3), 1);
    }

    private static void bytesOnTheTape() {
        Run run = new Run();
        Edge.due("none", run.count(4), 0);
        for (int i = 1; i <= 101; i++) {
            run.feed(i, i, i, i, i);
            Edge.due("behind " + i, run.count(4), Math.min(2000, 20 * i));
        }
        run.send(0, 1);
        Edge.due("none", run.count(4), 0);
    }

    private static void badBlocks() {
        Run run = new Run().grow(2, 1);
        Edge.due("none", run.count(5), 0);
        Kit.Block bad = run.next(Run.spendNothing());
        run.put(bad);
        Edge.due("one", run.count(5), 1);
        run.put(Run.behind(bad));
        Edge.due("one that is refused behind it", run.count(5), 1);
        Kit.Block beside = Run.behind(run.chain.get(1), Run.spendNothing());
        run.put(beside);
        Edge.due("not looked at", run.count(5), 1);
        run.put(Run.behind(beside));
        Edge.due("looked at, and the one behind it", run.count(5), 3);
    }

    private static void otherCounts() {
        Run run = new Run().grow(1, 1);
        for (int what : new int[] {-1, 6, 7, Integer.MAX_VALUE, Integer.MIN_VALUE}) {
            Edge.due("count " + what, run.count(what), -1);
        }
    }

    private static void sumOfFees() {
        Run run = Run.ripe(3);
        Edge.due("an empty pool", run.fees(), 0L);
        Kit.Tx free = run.spend(1, 0).out(Run.RICH);
        run.put(free);
        Edge.due("no fee", run.fees(), 0L);
        Kit.Tx all = run.spend(1, 1).out(0);
        run.put(all);
        Edge.due("all is fee", run.fees(), Run.RICH);
        run.put(new Kit.Tx().in(free, 0, 81).out(Run.RICH - 3));
        Edge.due("of the pool's own coin", run.fees(), Run.RICH + 3);
        run.put(run.next(free, all));
        Edge.due("two are in a block", run.fees(), 3L);
    }
}
