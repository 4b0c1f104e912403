import java.util.ArrayList;
import java.util.Collections;
import java.util.List;

/** The edges of BLOCKS: targets, bits, medians, subsidies, the faults of a block in its chain, the tip. */
final class BlockEdges {
    private static final String TARGET = "BITS mean a TARGET: s the highest eight bits, m the lowest 23: m * 256 ^ (s - 3), "
            + "rounded down.";
    private static final String HEIGHT = "A block's HEIGHT is 0 for the first one, else one more than its parent's;";
    private static final String WORK = "its WORK that of its parent and 2 ^ 256 / (target + 1), rounded down.";
    private static final String SAME_BITS = "The bits that a child of p must have: if its height is no multiple of 8, those "
            + "of p.";
    private static final String SEVEN = "Otherwise, with t the time of p less that of the block seven heights below it on its "
            + "branch,";
    private static final String LEAST_MOST = "at least 1200 and at most 19200:";
    private static final String NEW_BITS = "the compact form of p's target * t / 4800, rounded down, or of the first block's "
            + "target, if that is less.";
    private static final String COMPACT = "COMPACT: s is how many bytes the number has, m its three highest bytes (bytes 0 "
            + "behind, if it has fewer); if the highest bit of these is 1, m is the two highest ones, and s one more.";
    private static final String MEDIAN = "The MEDIAN of p: of the times of p and the ten blocks below it on its branch (as "
            + "many as there are, n) in rising order the one at n / 2, rounded down, from 0 on.";
    private static final String SUBSIDY = "The SUBSIDY of a height h: 5000000000 / 2 ^ (h / 32), both rounded down.";
    private static final String RIGHT = "CHAIN of a block: the first one, .., its parent, itself. It is RIGHT if all blocks in "
            + "it but the first one are right, each in its chain:";
    private static final String COINS = "COINS: a KEY is a name and an index. A transaction spends the keys of its inputs, and "
            + "makes for each output a coin with its own name and the output's number (from 0 on) as key, the value and the "
            + "script.";
    private static final String LEFT_COINS = "The coins of a chain are those made and not spent, block by block, in each "
            + "transaction by transaction, spending first.";
    private static final String ROOT_INPUT = "The FIRST TRANSACTION of a block has one input, with a name of zeros and the "
            + "index 4294967295 (a ROOT INPUT), which spends nothing.";
    private static final String FAULTS = "The faults of a block in its chain, the first transaction at which one is, in it the "
            + "first of these that is so:";
    private static final String F31 = "31 an input's key has no coin";
    private static final String F32 = "32 it has one of a first transaction of a block that is less than 8 heights below";
    private static final String F33 = "33 the values of its outputs are more, together, than those of the coins that it spends";
    private static final String F34 = "34 a script fails (see SCRIPTS; from the first input on), or asks for the 25th signature "
            + "in this block (from 0 each time that it is looked at)";
    private static final String F36 = "36 a key that it would make has a coin already (before it spends)";
    private static final String F37 = "37 there would be more than 1500 coins behind it, or more than 3000 would have been spent "
            + "in the chain.";
    private static final String FIRST = "For the first transaction 36 and 37 alone;";
    private static final String F35 = "and behind all: 35 the values of its outputs are more than the subsidy and all fees (a FEE "
            + "is what a transaction's coins have more than its outputs).";
    private static final String TIP = "THE TIP is, of the blocks that are known and not BAD, the one with the most work, of like "
            + "ones that which came first.";
    private static final String LOOKED_AT = "When a block has come that would be the tip, its chain is looked at, from the block "
            + "at which it leaves the chain of the tip before;";
    private static final String BAD = "the first block on it that is not right is bad, and all that have it in their chains;";
    private static final String ANEW = "then it is looked for a tip anew, among those that are left, till there is one whose "
            + "chain is right.";

    private BlockEdges() {
    }

    static void all() {
        Edge.of(3, TARGET, "names just above it and just below, by their highest bytes", BlockEdges::nearTheTarget);
        Edge.of(3, "(Those that come about below have no sign, are not 0, and are not above the first block's.)",
                "bits that do not come about", BlockEdges::otherBits);
        Edge.of(9, HEIGHT, "the first, the second", BlockEdges::heights);
        Edge.of(5, WORK, "a target that is a power of 2", BlockEdges::powerOfTwo);
        Edge.of(5, WORK, "as much when rounded down, and not else", BlockEdges::roundedWork);
        Edge.of(5, WORK, "fewer blocks with more work", BlockEdges::moreWork);
        Edge.of(3, SAME_BITS, "heights 7, 8, 9", BlockEdges::multiplesOf8);
        Edge.of(3, SEVEN, "not six, not eight", BlockEdges::sevenBelow);
        Edge.of(3, SEVEN, "each branch its own", BlockEdges::onItsBranch);
        Edge.of(3, LEAST_MOST, "t is 1199, 1200, 1201", BlockEdges::leastTime);
        Edge.of(3, LEAST_MOST, "t is below 0", BlockEdges::timeBelow0);
        Edge.of(3, LEAST_MOST, "t is 19199, 19200, 19201", BlockEdges::mostTime);
        Edge.of(3, NEW_BITS, "t is 4799, 4800, 4801", BlockEdges::firstTarget);
        Edge.of(3, NEW_BITS, "t is 4799, 4800, 4801 from a lower target on", BlockEdges::aroundTheSame);
        Edge.of(3, COMPACT, "the highest byte is 127 and 128, 255 and 1", BlockEdges::compactForms);
        Edge.of(3, MEDIAN, "of 1 to 5 blocks", BlockEdges::medianOfFew);
        Edge.of(3, MEDIAN, "of 10, of 11, and not of 12", BlockEdges::medianOfMany);
        Edge.of(3, MEDIAN, "each branch its own", BlockEdges::medianOfBranch);
        Edge.of(3, SUBSIDY, "heights 31 and 32", BlockEdges::subsidy);
        Edge.of(3, SUBSIDY, "heights 63 and 64", BlockEdges::secondHalving);
        Edge.of(3, RIGHT, "right by itself, but not so its parent", BlockEdges::behindWhatIsNotRight);
        Edge.of(3, RIGHT, "one coin is spent in two branches", BlockEdges::eachInItsChain);
        Edge.of(7, COINS, "the numbers 0 and 7", BlockEdges::numbersOfCoins);
        Edge.of(7, LEFT_COINS, "made and spent in one block", BlockEdges::atOnce);
        Edge.of(7, LEFT_COINS, "spent before it is made", BlockEdges::wrongOrder);
        Edge.of(3, ROOT_INPUT, "an index one less, a name not all 0", BlockEdges::noRootInput);
        Edge.of(3, ROOT_INPUT, "it spends nothing", BlockEdges::spendsNothing);
        Edge.of(3, FAULTS, "an earlier transaction with a later fault", BlockEdges::firstTransaction);
        Edge.of(3, FAULTS, "one transaction with several", BlockEdges::firstFault);
        Edge.of(3, F31, "never made, an index too high, spent", BlockEdges::noCoin);
        Edge.of(3, F31, "the last input", BlockEdges::noCoinAtLast);
        Edge.of(3, F32, "7 and 8 heights below", BlockEdges::tooYoung);
        Edge.of(3, F32, "the block's own, and coins of others than first ones", BlockEdges::age);
        Edge.of(3, F33, "as much, and one more", BlockEdges::values);
        Edge.of(3, F34, "the first input's and the last one's", BlockEdges::failing);
        Edge.of(3, F34, "24 signatures and 25 in one script", BlockEdges::manySignatures);
        Edge.of(3, F34, "24 signatures and 25 in two inputs and in two transactions", BlockEdges::sharedSignatures);
        Edge.of(3, F34, "24 signatures, looked at twice", BlockEdges::lookedAtTwice);
        Edge.of(3, F36, "the same first transaction again", BlockEdges::madeAgain);
        Edge.of(3, F36, "one of its coins is left, none is left", BlockEdges::oneIsLeft);
        Edge.of(3, F36, "what the same block would spend", BlockEdges::beforeItSpends);
        Edge.of(3, F37, "1500 coins and 1501", BlockEdges::mostCoins);
        Edge.of(3, F37, "3000 are spent and 3001", BlockEdges::mostSpent);
        Edge.of(3, FIRST, "its script, its values, its key", BlockEdges::firstAlone);
        Edge.of(3, F35, "the subsidy, and one more", BlockEdges::noFees);
        Edge.of(3, F35, "the subsidy and all fees, and one more", BlockEdges::allFees);
        Edge.of(3, F35, "behind a fault of the last transaction", BlockEdges::behindAll);
        Edge.of(5, TIP, "as much work, and more", BlockEdges::likeOnes);
        Edge.of(5, TIP, "the first of like ones is bad", BlockEdges::likeOnesAndBad);
        Edge.of(3, LOOKED_AT, "not before it would be the tip", BlockEdges::notLookedAt);
        Edge.of(3, LOOKED_AT, "from the first block on, and from the tip on", BlockEdges::leavesAnywhere);
        Edge.of(9, BAD, "the first on the way, one in the middle, the last", BlockEdges::badOnes);
        Edge.of(9, BAD, "those beside that have it in their chains", BlockEdges::badBeside);
        Edge.of(5, ANEW, "the tip before, with all its coins", BlockEdges::asBefore);
    }

    /** A block behind the first one whose name has been looked for, with this as its nonce. */
    private static Kit.Block withNonce(long nonce) {
        Kit.Block block = Kit.behind(Kit.first()).with(Kit.root(7).out(1));
        block.nonce = nonce;
        return block;
    }

    private static void nearTheTarget() {
        // the target is 7F FF FF and 29 bytes 0
        String[] ends = {"21ffff7f", "a3ffff7f", "30feff7f", "b7feff7f"};
        long[] nonces = {540156112L, 3228377883L, 5539004L, 1077785565L};
        for (int i = 0; i < 4; i++) {
            Kit.Block block = withNonce(nonces[i]);
            Edge.due("its name", Model.hex(block.name()).endsWith(ends[i]), true);
            Edge.due("ends with " + ends[i], new Run().code(block), i < 2 ? 25 : 0);
        }
        // a quarter of it is 1F FF FF and 29 bytes 0
        for (int last : new int[] {0x1f, 0x20}) {
            Run run = timed(7, 1, 1200);
            Kit.Block block = next(run, 0x201fffffL);
            while (block.name()[31] != last) {
                block.nonce++;
            }
            Edge.due("the highest byte " + last, run.code(block), last == 0x1f ? 0 : 25);
        }
    }

    private static void otherBits() {
        Run run = new Run();
        for (long bits : new long[] {0, 0x20800000L, 0x20ffffffL, 0xa07fffffL, 0x217fffffL, 0x21008000L, 0x207ffffeL, 0x2000ffffL,
            0x20000000L, 0x0100007fL, 0xffffffffL}) {
            Kit.Block block = run.next();
            block.bits = bits;
            Edge.due(Long.toHexString(bits), run.code(block), 23);
        }
        Edge.due("those of the first", run.code(run.next()), 0);
    }

    /** A block behind the tip with these bits. */
    private static Kit.Block next(Run run, long bits) {
        Kit.Block block = Kit.behind(run.tip());
        block.bits = bits;
        return block.with(Kit.root(Run.mark()).out(1));
    }

    private static Kit.Block at(Kit.Block below, long time) {
        Kit.Block block = Run.behind(below);
        block.time = time;
        return block.mine();
    }

    /** A run of so many blocks, each a step later than the one before it, but the last so much later than the first one. */
    private static Run timed(int many, long step, long t) {
        return timed(new Run(), many, step, t);
    }

    /** Puts many blocks behind the tip; the last one's time is that of the block seven heights below it and t. */
    private static Run timed(Run run, int many, long step, long t) {
        for (int i = 1; i <= many; i++) {
            int seven = Math.max(0, run.tip().height - 6);
            long time = i < many ? run.tip().time + step : run.chain.get(seven).time + t;
            run.add(at(run.tip(), time));
        }
        Edge.due("height", run.count(1), run.tip().height);
        return run;
    }

    /** These are the bits behind the tip; others, lower and higher, are not. */
    private static void bits(String what, Run run, long due) {
        for (long other : new long[] {due - 1, due + 1, run.tip().bits}) {
            if (other != due) {
                Edge.due(what + ": not " + Long.toHexString(other), run.code(next(run, other)), 23);
            }
        }
        Edge.due(what + ": " + Long.toHexString(due), run.code(next(run, due).mine()), 0);
    }

    private static void heights() {
        Run run = new Run();
        Edge.due("the first", run.count(1), 0);
        run.add(run.next());
        Edge.due("the second", run.count(1), 1);
        Kit.Block beside = Run.behind(Kit.first());
        run.put(beside);
        Edge.due("the second", run.count(1), 1);
        Kit.Block third = Run.behind(beside);
        run.put(third);
        Edge.due("one more than its parent", run.count(1), 2);
        Edge.due("its name", run.tipName(2), Model.hex(third.name()));
        Edge.due("its parent's", run.tipName(1), Model.hex(beside.name()));
    }

    private static void powerOfTwo() {
        // 8388607 * 1348 / 4800 and then * 4273 / 4800 make the target 2 ^ 253, whose work is 7; a little more has 7, too
        Run run = timed(7, 10, 1348);
        timed(run, 7, 10, 70);
        Kit.Block eight = run.chain.get(8);
        Kit.Block later = at(run.tip(), eight.time + 4274);
        Kit.Block exact = at(run.tip(), eight.time + 4273);
        Kit.Block onLater = Run.behind(later);
        Kit.Block onExact = Run.behind(exact);
        Edge.due("bits", onExact.bits, 0x20200000L);
        Edge.due("bits", onLater.bits > 0x20200000L && onLater.bits < 0x20202000L, true);
        run.put(later, exact, onLater, onExact);
        Edge.due("all are known", run.count(0), 19);
        run.tip("7 and 7", onLater);
        Kit.Block last = Run.behind(onExact);
        run.put(last);
        run.tip("14", last);
    }

    private static void roundedWork() {
        // 2 ^ 256 / (target + 1) is 2.0000002 for the first target and 8.0000038 for a quarter of it
        Run slow = new Run().grow(11, 1);
        Kit.Block quick = Kit.first();
        for (int i = 1; i <= 8; i++) {
            quick = at(quick, i < 7 ? quick.time + 1 : i == 7 ? Kit.FIRST_TIME + 1200 : quick.time + 600);
            slow.put(quick);
        }
        Edge.due("bits of the slow ones", slow.tip().bits, 0x206fffffL);
        Edge.due("bits of the quick one", quick.bits, 0x201fffffL);
        Edge.due("known", slow.count(0), 20);
        slow.tip("7 * 2 + 8 and 11 * 2", slow.tip());
        Kit.Block more = Run.behind(quick);
        slow.put(more);
        slow.tip("7 * 2 + 2 * 8 and 11 * 2", more);
    }

    private static void moreWork() {
        Run run = new Run().grow(10, 1);
        Kit.Block quick = Kit.first();
        for (int i = 1; i <= 7; i++) {
            quick = at(quick, i < 7 ? quick.time + 1 : Kit.FIRST_TIME + 1200);
            run.put(quick);
        }
        run.tip("7 * 2 and 10 * 2", run.tip());
        quick = Run.behind(quick);
        run.put(quick);
        run.tip("7 * 2 + 8 and 10 * 2", quick);
        Edge.due("the height may be less", run.count(1), 8);
    }

    private static void multiplesOf8() {
        Run run = timed(6, 1, 6);
        Kit.Block seven = next(run, 0x201fffffL);
        Edge.due("7: new ones", run.code(seven.mine()), 23);
        run.add(at(run.tip(), Kit.FIRST_TIME + 1200));
        run.answers(0);
        Edge.due("7: the same", run.count(1), 7);
        Edge.due("8: the same", run.code(next(run, 0x207fffffL).mine()), 23);
        Kit.Block eight = next(run, 0x201fffffL).mine();
        eight.time = run.tip().time + 1;
        Edge.due("8: new ones", run.code(eight.mine()), 0);
        run.chain.add(eight);
        Edge.due("9: new ones", run.code(next(run, 0x2007ffffL).mine()), 23);
        Edge.due("9: the first one's", run.code(next(run, 0x207fffffL).mine()), 23);
        Edge.due("9: the same", run.code(next(run, 0x201fffffL).mine()), 0);
    }

    private static void sevenBelow() {
        Run run = new Run();
        for (int i = 1; i <= 15; i++) {
            long time = i == 7 ? 1001000 : i == 8 ? 1002000 : i == 9 ? 1003000 : i == 15 ? 1004500 : run.tip().time + 1;
            run.add(at(run.tip(), time));
        }
        // 1001000 of 4800 is too little, so the bits are 201fffff from 8 on; 2500 of 4800 is t
        Edge.due("bits of 15", run.tip().bits, 0x201fffffL);
        bits("2500, not 3500 or 1500", run, 0x2010aaaaL);
    }

    private static void onItsBranch() {
        Run run = timed(7, 1, 1200);
        List<Kit.Block> tops = new ArrayList<>();
        for (long first : new long[] {1002000, 1001500}) {
            Kit.Block top = at(run.tip(), first);
            run.put(top);
            for (int i = 9; i <= 15; i++) {
                top = at(top, i == 15 ? 1004500 : top.time + 1);
                run.put(top);
            }
            tops.add(top);
        }
        run.answers(0);
        long[] dues = {0x2010aaaaL, 0x2013ffffL};
        for (int i = 0; i < 2; i++) {
            Kit.Block other = Run.behind(tops.get(i));
            other.bits = dues[1 - i];
            Edge.due("the other branch's", run.code(other.mine()), 23);
            Kit.Block own = Run.behind(tops.get(i));
            own.bits = dues[i];
            Edge.due("its own", run.code(own.mine()), 0);
        }
    }

    private static void leastTime() {
        bits("1199", timed(7, 1, 1199), 0x201fffffL);
        bits("1200", timed(7, 1, 1200), 0x201fffffL);
        bits("1201", timed(7, 1, 1201), 0x202006d3L);
    }

    private static void timeBelow0() {
        bits("7", timed(7, 1, 7), 0x201fffffL);
        Run run = timed(7, 1, 1200);
        run.add(at(run.tip(), 1100000));
        for (int i = 9; i <= 15; i++) {
            run.add(at(run.tip(), 1001300 + i));
        }
        Edge.due("earlier than the one seven below", run.tip().time - run.chain.get(8).time, -98685L);
        bits("below 0", run, 0x2007ffffL);
    }

    /** A run whose bits are 2007ffff, with 15 blocks behind them: the next one has new bits. */
    private static Run sixteenth(long t) {
        Run run = timed(7, 1, 1200);
        timed(run, 8, 1, 1200);
        Edge.due("a quarter", run.tip().bits, 0x201fffffL);
        timed(run, 8, 1, t);
        Edge.due("a sixteenth", run.tip().bits, 0x2007ffffL);
        return run;
    }

    private static void mostTime() {
        bits("19199", sixteenth(19199), 0x201fff8eL);
        bits("19200", sixteenth(19200), 0x201ffffcL);
        bits("19201", sixteenth(19201), 0x201ffffcL);
        bits("100000", sixteenth(100000), 0x201ffffcL);
    }

    private static void firstTarget() {
        bits("4799", timed(7, 1, 4799), 0x207ff92bL);
        bits("4800", timed(7, 1, 4800), 0x207fffffL);
        bits("4801", timed(7, 1, 4801), 0x207fffffL);
        bits("19201", timed(7, 1, 19201), 0x207fffffL);
    }

    private static void aroundTheSame() {
        bits("4799", sixteenth(4799), 0x2007ff91L);
        bits("4800", sixteenth(4800), 0x2007ffffL);
        bits("4801", sixteenth(4801), 0x2008006cL);
    }

    private static void compactForms() {
        // a quarter of 2001ffff is 7F FF C0 ..; with 1201 it is 80 1B ..; a half FF FF 80 ..; with 2401 01 00 1A ..
        long[] times = {1200, 1201, 2400, 2401};
        long[] dues = {0x1f7fffc0L, 0x2000801bL, 0x2000ffffL, 0x2001001aL};
        for (int i = 0; i < 4; i++) {
            Run run = sixteenth(1200);
            timed(run, 8, 1, times[i]);
            Edge.due("a 64th", run.tip().bits, 0x2001ffffL);
            bits("t is " + times[i], run, dues[i]);
        }
    }

    /** The block behind the tip may not have the median's time, but one more. */
    private static void median(Run run, long median) {
        Edge.due("of " + run.chain.size() + " the median", run.code(at(run.tip(), median)), 24);
        Edge.due("and one more", run.code(at(run.tip(), median + 1)), 0);
    }

    private static void medianOfFew() {
        Run run = new Run();
        median(run, 1000000);
        run.add(at(run.tip(), 1000900));
        median(run, 1000900);
        run.add(at(run.tip(), 1000950));
        median(run, 1000900);
        run.add(at(run.tip(), 1000910));
        median(run, 1000910);
        run.add(at(run.tip(), 1000920));
        median(run, 1000910);
        Run zero = new Run();
        Edge.due("0", zero.code(at(Kit.first(), 0)), 24);
        Edge.due("one less", zero.code(at(Kit.first(), 999999)), 24);
    }

    private static void medianOfMany() {
        // the block of height 3 is the latest of all
        Run run = new Run();
        for (int i = 1; i <= 9; i++) {
            run.add(at(run.tip(), i == 3 ? 1009000 : 1000000 + 100 * i));
        }
        // of 10: 0, 100, 200, 400, 500, 600, ..
        median(run, 1000600);
        run.add(at(run.tip(), 1001000));
        // of 11: 0, 100, 200, 400, 500, 600, ..
        median(run, 1000600);
        run.add(at(run.tip(), 1001100));
        // without the first: 100, 200, 400, 500, 600, 700, ..
        median(run, 1000700);
        run.add(at(run.tip(), 1001200));
        median(run, 1000800);
        run.add(at(run.tip(), 1001300));
        // 400, .. 1300, 9000: the height 3 is the last of the 11
        median(run, 1000900);
        run.add(at(run.tip(), 1001400));
        // 400, .. 1400: with it 1000 would be in the middle
        median(run, 1000900);
    }

    private static void medianOfBranch() {
        Run run = new Run();
        Kit.Block low = at(Kit.first(), 1000001);
        Kit.Block high = at(Kit.first(), 1005000);
        run.put(low, high);
        run.answers(0);
        Edge.due("the low one's", run.code(at(low, 1000001)), 24);
        Edge.due("above the low one's", run.code(at(low, 1000002)), 0);
        Edge.due("the high one's", run.code(at(high, 1005000)), 24);
        Edge.due("above the high one's", run.code(at(high, 1005001)), 0);
    }

    /** A block behind the tip whose first transaction has so much. */
    private static Kit.Block worth(Run run, long value, Kit.Tx... txs) {
        Kit.Block block = run.next(txs);
        block.txs.get(0).outs.get(0).value = value;
        return block.mine();
    }

    private static void subsidy() {
        Run run = new Run().grow(30, 1);
        run.put(worth(run, 5000000001L));
        Edge.due("too much at 31", run.count(1), 30);
        run.add(worth(run, 5000000000L));
        Edge.due("31", run.count(1), 31);
        run.put(worth(run, 2500000001L));
        Edge.due("too much at 32", run.count(1), 31);
        run.add(worth(run, 2500000000L));
        Edge.due("32", run.count(1), 32);
        run.put(worth(run, 2500000001L));
        Edge.due("too much at 33", run.count(1), 32);
        Edge.due("bad ones", run.count(5), 3);
    }

    private static void secondHalving() {
        Run run = new Run(true).grow(62, 1);
        run.put(worth(run, 2500000001L));
        Edge.due("too much at 63", run.count(1), 62);
        run.add(worth(run, 2500000000L));
        Edge.due("63", run.count(1), 63);
        run.put(worth(run, 1250000001L));
        Edge.due("too much at 64", run.count(1), 63);
        run.add(worth(run, 1250000000L));
        Edge.due("64", run.count(1), 64);
    }

    private static void behindWhatIsNotRight() {
        Run run = new Run().grow(2, 1);
        Kit.Block wrong = Run.behind(run.chain.get(1), Run.spendNothing());
        Kit.Block right = Run.behind(wrong);
        run.answers(0);
        Edge.due("not looked at", run.code(wrong), 0);
        Edge.due("right by itself", run.code(right), 22);
        run.tip("as before", run.tip());
        Run first = new Run();
        Edge.due("behind the first one, which has no transactions", first.code(first.next()), 0);
    }

    private static void eachInItsChain() {
        Run run = Run.ripe(1);
        Kit.Block below = run.tip();
        Kit.Block one = run.next(run.spend(1, 0).out(5));
        Kit.Block two = Run.behind(below, run.spend(1, 0).out(6));
        Kit.Block three = Run.behind(two);
        run.put(one, two);
        run.tip("one", one);
        run.put(three);
        run.tip("three", three);
        Edge.due("spent here", run.value(two.txs.get(1), 0), 6L);
        Edge.due("not here", run.value(one.txs.get(1), 0), -1L);
        Edge.due("none is bad", run.count(5), 0);
    }

    private static void numbersOfCoins() {
        Run run = new Run();
        Kit.Block block = run.next();
        block.txs.get(0).outs.clear();
        for (int i = 0; i < 8; i++) {
            block.txs.get(0).out(100 + i);
        }
        run.put(block.mine());
        for (int i = 0; i < 8; i++) {
            Edge.due("number " + i, run.value(block.txs.get(0), i), 100L + i);
        }
        Edge.due("number 8", run.value(block.txs.get(0), 8), -1L);
        Edge.due("number -1", run.value(block.txs.get(0), -1), -1L);
    }

    private static void atOnce() {
        Run run = Run.ripe(1);
        Kit.Tx maker = run.spend(1, 0).out(7).out(8);
        Kit.Tx user = new Kit.Tx().in(maker, 0, 81).out(6);
        Kit.Tx last = new Kit.Tx().in(user, 0, 81).out(5);
        run.put(run.next(maker, user, last));
        Edge.due("height", run.count(1), 9);
        Edge.due("spent", run.value(run.root(1), 0), -1L);
        Edge.due("made and spent", run.value(maker, 0), -1L);
        Edge.due("made and left", run.value(maker, 1), 8L);
        Edge.due("made and spent", run.value(user, 0), -1L);
        Edge.due("made and left", run.value(last, 0), 5L);
        Edge.due("coins: 7 and the next block's, and two", run.count(2), 10);
    }

    private static void wrongOrder() {
        Run run = Run.ripe(1);
        Kit.Tx maker = run.spend(1, 0).out(7);
        Kit.Tx user = new Kit.Tx().in(maker, 0, 81).out(6);
        run.answers(0);
        Edge.due("before it is made", run.code(run.next(user, maker)), 31);
        Edge.due("nothing is spent", run.value(run.root(1), 0), Run.RICH);
        Edge.due("behind it", run.code(run.next(maker, user)), 0);
    }

    private static void noRootInput() {
        Run run = new Run();
        for (long index : new long[] {0, 1, 4294967294L, 2147483647L, 2147483648L}) {
            Kit.Block block = run.next();
            block.txs.get(0).ins.get(0).index = index;
            Edge.due("index " + index, run.code(block.mine()), 26);
        }
        for (int at : new int[] {0, 15, 31}) {
            Kit.Block block = run.next();
            block.txs.get(0).ins.get(0).name[at] = 1;
            Edge.due("name byte " + at, run.code(block.mine()), 26);
        }
        Edge.due("zeros and 4294967295", run.code(run.next()), 0);
        // such keys are like others where they stand in another transaction
        Kit.Tx near = new Kit.Tx().in(new byte[32], 4294967294L, new byte[0]).out(1);
        run = new Run();
        Edge.due("zeros and one less is a key without a coin", run.code(run.next(near)), 31);
        near = new Kit.Tx().in(Kit.repeated(1, 32), 4294967295L, new byte[0]).out(1);
        Edge.due("so is another name", run.code(run.next(near)), 31);
    }

    private static void spendsNothing() {
        Run run = new Run().grow(3, 1);
        Edge.due("three coins", run.count(2), 3);
        Edge.due("total", run.total(), Run.RICH + 2);
        Edge.due("none spent", run.value(run.root(1), 0), Run.RICH);
    }

    private static void firstTransaction() {
        Run run = Run.ripe(4);
        run.answers(0);
        Kit.Tx young = run.spend(2, 0).out(1);
        Kit.Tx much = run.spend(1, 0).out(Run.RICH + 1);
        Kit.Tx fails = new Kit.Tx().in(run.root(1), 1, 0).out(1);
        Edge.due("32 before 31", run.code(run.next(young, Run.spendNothing())), 32);
        Edge.due("33 before 31", run.code(run.next(much, Run.spendNothing())), 33);
        Edge.due("34 before 31", run.code(run.next(fails, Run.spendNothing())), 34);
        Edge.due("31 before 33", run.code(run.next(Run.spendNothing(), much)), 31);
        Kit.Block again = run.next(Run.spendNothing());
        again.txs.set(0, run.root(1));
        Edge.due("36 before 31", run.code(again.mine()), 36);
    }

    private static void firstFault() {
        Run run = Run.ripe(2);
        run.answers(0);
        Kit.Tx two = run.spend(2, 0).out(9 * Run.RICH).in(Crypto.name(Kit.bytes(1)), 0, new byte[0]);
        Edge.due("31 before 32 and 33", run.code(run.next(two)), 31);
        Edge.due("32 before 33", run.code(run.next(run.spend(2, 0).out(9 * Run.RICH))), 32);
        Kit.Tx fails = new Kit.Tx().in(run.root(1), 0, 0).out(Run.RICH + 1);
        Edge.due("33 before 34", run.code(run.next(fails)), 33);
        Kit.Tx young = new Kit.Tx().in(run.root(1), 0, 0).in(run.root(2), 0, 81).out(1);
        Edge.due("32 before 34", run.code(run.next(young)), 32);
    }

    private static void noCoin() {
        Run run = Run.ripe(2);
        run.answers(0);
        Edge.due("never made", run.code(run.next(Run.spendNothing())), 31);
        Edge.due("index 2 of 2", run.code(run.next(run.spend(1, 2).out(1))), 31);
        Edge.due("index 2 ^ 32 - 1", run.code(run.next(run.spend(1, -1).out(1))), 31);
        Edge.due("spent in this block", run.code(run.next(run.spend(1, 0).out(1), run.spend(1, 0).out(2))), 31);
        Edge.due("index 1 of 2", run.code(run.add(run.next(run.spend(1, 1).out(1)))), 20);
        Edge.due("spent in a block below", run.code(run.next(run.spend(1, 1).out(1))), 31);
    }

    private static void noCoinAtLast() {
        Run run = Run.ripe(7);
        run.answers(0);
        Kit.Tx tx = run.spend(1, 0).out(1);
        for (int i = 1; i < 7; i++) {
            tx.in(run.root(1), i, 81);
        }
        tx.in(Crypto.name(Kit.bytes(2)), 0, new byte[0]);
        Edge.due("the eighth", run.code(run.next(tx)), 31);
        Edge.due("nothing is spent", run.count(2), 14);
        tx.ins.remove(7);
        Edge.due("without it", run.code(run.next(tx)), 0);
    }

    private static void tooYoung() {
        Run run = Run.ripe(1);
        run.answers(0);
        Edge.due("at 9 that of 2", run.code(run.next(run.spend(2, 0).out(1))), 32);
        Edge.due("at 9 that of 1", run.code(run.next(run.spend(1, 0).out(1))), 0);
        run = new Run().grow(7, 1);
        run.answers(0);
        Edge.due("at 8 that of 1", run.code(run.next(run.spend(1, 0).out(1))), 32);
        run = Run.ripe(1);
        run.answers(0);
        Kit.Tx last = new Kit.Tx().in(run.root(1), 0, 81).in(run.root(2), 0, 81).out(1);
        Edge.due("the second input's", run.code(run.next(last)), 32);
    }

    private static void age() {
        Run run = Run.ripe(1);
        run.answers(0);
        Kit.Block own = run.next();
        own.with(new Kit.Tx().in(own.txs.get(0), 0, 81).out(1));
        Edge.due("the block's own", run.code(own.mine()), 32);
        Kit.Tx maker = run.spend(1, 0).out(3);
        Kit.Tx user = new Kit.Tx().in(maker, 0, 81).out(2);
        run.add(run.next(maker, user));
        Edge.due("of the same block", run.count(1), 9);
        run.add(run.next(new Kit.Tx().in(user, 0, 81).out(1)));
        Edge.due("of the block before", run.count(1), 10);
    }

    private static void values() {
        Run run = Run.ripe(4);
        run.answers(0);
        Edge.due("one more", run.code(run.next(run.spend(1, 0).out(Run.RICH).out(1))), 33);
        Edge.due("one more than two", run.code(run.next(run.spend(1, 0).in(run.root(1), 1, 81).out(2 * Run.RICH + 1))), 33);
        run.add(run.next(run.spend(1, 0).in(run.root(1), 1, 81).out(Run.RICH).out(Run.RICH)));
        Edge.due("as much", run.count(1), 9);
        run.add(run.next(run.spend(1, 2).out(0)));
        Edge.due("nothing", run.count(1), 10);
        Edge.due("the most that one may have", run.code(run.next(run.spend(1, 3).out(2100000000000000L))), 33);
    }

    private static void failing() {
        Run run = Run.ripe(3);
        run.answers(0);
        Kit.Tx first = new Kit.Tx().in(run.root(1), 0, 0).in(run.root(1), 1, 81).out(1);
        Edge.due("the first", run.code(run.next(first)), 34);
        Kit.Tx last = new Kit.Tx().in(run.root(1), 0, 81).in(run.root(1), 1, 81).in(run.root(1), 2, 106).out(1);
        Edge.due("the last", run.code(run.next(last)), 34);
        Kit.Tx both = new Kit.Tx().in(run.root(1), 0, 81).in(run.root(1), 1, 81).out(1);
        Edge.due("none", run.code(run.next(both)), 0);
    }

    /** A script that asks for so many signatures, none of which fits, and holds. */
    static byte[] asking(int many) {
        byte[] out = Kit.joined(new byte[4 * many], Kit.bytes(81));
        for (int i = 0; i < many; i++) {
            out[4 * i + 2] = (byte) 172;
            out[4 * i + 3] = 117;
        }
        return out;
    }

    private static Kit.Tx asks(Run run, int output, int many) {
        return new Kit.Tx().time(Run.mark()).in(run.root(1).name(), output, asking(many)).out(1);
    }

    private static void manySignatures() {
        Run run = Run.ripe(2);
        run.answers(0);
        Edge.due("25", run.code(run.next(asks(run, 0, 25))), 34);
        Edge.due("24", run.code(run.add(run.next(asks(run, 0, 24)))), 20);
        Edge.due("24 in the next block", run.code(run.next(asks(run, 1, 24))), 0);
    }

    private static void sharedSignatures() {
        Run run = Run.ripe(4);
        run.answers(0);
        Kit.Tx five = asks(run, 0, 20).in(run.root(1).name(), 1, asking(5));
        Kit.Tx four = asks(run, 0, 20).in(run.root(1).name(), 1, asking(4));
        Edge.due("20 and 5 in two inputs", run.code(run.next(five)), 34);
        Edge.due("20 and 5 in two transactions", run.code(run.next(asks(run, 0, 20), asks(run, 1, 5))), 34);
        Edge.due("24 and one in the last of three", run.code(run.next(asks(run, 0, 24), run.spend(1, 2).out(1),
                asks(run, 1, 1))), 34);
        run.add(run.next(four));
        Edge.due("20 and 4 in two inputs", run.count(1), 9);
        run.add(run.next(asks(run, 2, 20), asks(run, 3, 4)));
        Edge.due("20 and 4 in two transactions", run.count(1), 10);
    }

    private static void lookedAtTwice() {
        Run run = Run.ripe(2);
        Kit.Block below = run.tip();
        run.add(run.next());
        Kit.Block asks = Run.behind(below, asks(run, 0, 24));
        Kit.Block wrong = Run.behind(asks, Run.spendNothing());
        Kit.Block right = Run.behind(asks, asks(run, 1, 24));
        run.answers(0);
        Edge.due("not looked at", run.code(asks), 0);
        Edge.due("looked at, but the next one is wrong", run.code(wrong), 31);
        run.tip("as before", run.tip());
        Edge.due("looked at again", run.code(right), 0);
        run.tip("over", right);
    }

    private static void madeAgain() {
        Run run = new Run().grow(1, 1);
        run.answers(0);
        Kit.Block again = run.next();
        again.txs.set(0, run.root(1));
        Edge.due("again", run.code(again.mine()), 36);
        Edge.due("its coin is there once", run.count(2), 1);
        Kit.Block beside = Run.behind(Kit.first());
        beside.txs.set(0, run.root(1));
        beside.time++;
        Edge.due("in another branch", run.code(beside.mine()), 0);
        Edge.due("which may win", run.code(Run.behind(beside)), 0);
    }

    private static void oneIsLeft() {
        Run run = Run.ripe(2);
        Kit.Tx root = run.root(1);
        run.add(run.next(run.spend(1, 0).out(1)));
        run.answers(0);
        Kit.Block again = run.next();
        again.txs.set(0, root);
        Edge.due("the second is left", run.code(again.mine()), 36);
        run.add(run.next(run.spend(1, 1).out(1)));
        again = run.next();
        again.txs.set(0, root);
        run.add(again.mine());
        run.answers(0);
        Edge.due("none is left", run.count(1), 11);
        Edge.due("both are there again", run.value(root, 1), Run.RICH);
        Edge.due("and young", run.code(run.next(new Kit.Tx().in(root, 1, 81).out(2))), 32);
    }

    private static void beforeItSpends() {
        Run run = Run.ripe(1);
        run.answers(0);
        Kit.Tx spends = run.spend(1, 0).out(1);
        Kit.Block again = run.next(spends);
        again.txs.set(0, run.root(1));
        Edge.due("the second transaction would spend it", run.code(again.mine()), 36);
        Edge.due("it is not spent", run.value(run.root(1), 0), Run.RICH);
    }

    /** A long run with so many coins: a block's eleven transactions make 8 of one. */
    private static Run coins(int due) {
        Run run = new Run(true).grow(8, 8);
        int coins = 15;
        List<Kit.Tx> makers = new ArrayList<>(Collections.nCopies(1, run.root(1)));
        int taken = 0;
        while (coins < due) {
            Kit.Block block = run.next();
            coins++;
            for (int i = 0; i < 11 && coins < due; i++) {
                Kit.Tx tx = new Kit.Tx().time(Run.mark()).in(makers.get(taken / 8), taken % 8, 81).out(0);
                taken++;
                for (int j = 1; j < 8 && coins < due; j++) {
                    tx.out(0);
                    coins++;
                }
                makers.add(tx);
                block.with(tx);
            }
            run.add(block.mine());
        }
        Edge.due("coins", run.count(2), due);
        run.answers(0);
        return run;
    }

    private static void mostCoins() {
        Run run = coins(1499);
        Kit.Block first = run.next();
        first.txs.get(0).out(1);
        Edge.due("1501 by the first transaction", run.code(first.mine()), 37);
        Kit.Tx more = new Kit.Tx().in(run.root(3), 0, 81).out(0).out(0);
        Edge.due("1500 and then 1501", run.code(run.next(more)), 37);
        Kit.Tx same = new Kit.Tx().in(run.root(3), 0, 81).out(0);
        run.add(run.next(same));
        Edge.due("1500", run.count(2), 1500);
        run.answers(0);
        Edge.due("1501", run.code(run.next()), 37);
    }

    private static Kit.Tx pass(Kit.Tx maker) {
        Kit.Tx tx = new Kit.Tx().time(Run.mark());
        for (int i = 0; i < 8; i++) {
            tx.in(maker, i, 81).out(0);
        }
        return tx;
    }

    private static void mostSpent() {
        Run run = new Run(true).grow(8, 8);
        Kit.Tx last = run.root(1);
        int spent = 0;
        for (int i = 0; i < 125; i++) {
            Kit.Tx one = pass(last);
            Kit.Tx two = pass(one);
            last = pass(two);
            run.add(run.next(one, two, last));
            spent += 24;
        }
        Edge.due("all are spent", run.count(1), 133);
        Edge.due("so many", spent, 3000);
        run.answers(0);
        Edge.due("3001", run.code(run.next(new Kit.Tx().in(last, 0, 81).out(0))), 37);
        Edge.due("no more", run.code(run.next()), 0);
    }

    private static void firstAlone() {
        Run run = new Run();
        Kit.Block block = run.next();
        block.txs.get(0).ins.get(0).script = Kit.bytes(106, 255, 172);
        Edge.due("a script that would fail", run.code(block.mine()), 0);
        run = new Run();
        block = run.next();
        block.txs.get(0).ins.get(0).script = Kit.repeated(0, 100);
        block.txs.get(0).outs.get(0).value = Kit.SUBSIDY;
        Edge.due("values though it spends nothing", run.code(block.mine()), 0);
        Edge.due("its coin", run.value(block.txs.get(0), 0), Kit.SUBSIDY);
    }

    private static void noFees() {
        Run run = new Run();
        Edge.due("one more", run.code(worth(run, Kit.SUBSIDY + 1)), 35);
        Kit.Block two = worth(run, Kit.SUBSIDY);
        two.txs.get(0).out(1);
        Edge.due("one more in two", run.code(two.mine()), 35);
        Edge.due("the most that one may have", run.code(worth(run, 2100000000000000L)), 35);
        Edge.due("just that", run.code(worth(run, Kit.SUBSIDY)), 0);
        run = new Run();
        Edge.due("less", run.code(worth(run, 0)), 0);
    }

    private static void allFees() {
        Run run = Run.ripe(6);
        run.answers(0);
        Edge.due("no fee, one more", run.code(worth(run, Kit.SUBSIDY + 1, run.spend(1, 0).out(Run.RICH))), 35);
        Kit.Tx three = run.spend(1, 0).out(Run.RICH - 3);
        Kit.Tx five = run.spend(1, 1).out(Run.RICH - 5);
        Edge.due("3 and 5, one more", run.code(worth(run, Kit.SUBSIDY + 9, three, five)), 35);
        run.put(worth(run, Kit.SUBSIDY + 8, three, five));
        Edge.due("3 and 5", run.count(1), 9);
        run = Run.ripe(1);
        run.answers(0);
        Kit.Tx nothing = run.spend(1, 0).out(0);
        Edge.due("all of a coin, one more", run.code(worth(run, Kit.SUBSIDY + Run.RICH + 1, nothing)), 35);
        Edge.due("all of a coin", run.code(worth(run, Kit.SUBSIDY + Run.RICH, nothing)), 0);
    }

    private static void behindAll() {
        Run run = Run.ripe(1);
        run.answers(0);
        Edge.due("31 first", run.code(worth(run, 9 * Kit.SUBSIDY, Run.spendNothing())), 31);
        Kit.Tx fails = new Kit.Tx().in(run.root(1), 0, 0).out(1);
        Edge.due("34 first", run.code(worth(run, 9 * Kit.SUBSIDY, fails)), 34);
        Edge.due("nothing else", run.code(worth(run, 9 * Kit.SUBSIDY, run.spend(1, 0).out(1))), 35);
        Edge.due("its coins are there", run.value(run.root(1), 0), Run.RICH);
    }

    private static void likeOnes() {
        Run run = new Run().grow(2, 1);
        Kit.Block other = Run.behind(run.chain.get(1));
        run.put(other);
        run.tip("as much", run.tip());
        Kit.Block more = Run.behind(other);
        run.put(more);
        run.tip("more", more);
        Kit.Block back = run.next();
        run.put(back);
        run.tip("as much, later", more);
        Kit.Block most = Run.behind(back);
        run.put(most);
        run.tip("back", most);
    }

    private static void likeOnesAndBad() {
        Run run = new Run().grow(1, 1);
        Kit.Block bad = run.next(Run.spendNothing());
        Kit.Block good = run.next();
        run.put(bad, good);
        run.tip("the one that is right", good);
        Kit.Block third = run.next();
        run.put(third);
        run.tip("the first of those that are right", good);
    }

    private static void notLookedAt() {
        Run run = new Run().grow(2, 1);
        Kit.Block less = Run.behind(Kit.first(), Run.spendNothing());
        Kit.Block like = Run.behind(less, Run.spendNothing());
        run.answers(0);
        Edge.due("less work", run.code(less), 0);
        Edge.due("as much work", run.code(like), 0);
        Edge.due("none is bad", run.count(5), 0);
        Edge.due("more work", run.code(Run.behind(like)), 22);
        Edge.due("all are bad", run.count(5), 3);
        Edge.due("more work at once", run.code(run.next(Run.spendNothing())), 31);
    }

    private static void leavesAnywhere() {
        Run run = new Run().grow(2, 1);
        Kit.Block one = Run.behind(Kit.first());
        Kit.Block two = Run.behind(one);
        Kit.Block three = Run.behind(two);
        run.put(one, two, three);
        run.tip("from the first block on", three);
        Edge.due("its coins alone", run.count(2), 3);
        Edge.due("total", run.total(), 3L);
        Edge.due("no old one", run.value(run.root(1), 0), -1L);
        Kit.Block four = Run.behind(three);
        run.put(four);
        run.tip("from the tip on", four);
        Edge.due("one more", run.count(2), 4);
    }

    private static void badOnes() {
        for (int wrong = 0; wrong < 3; wrong++) {
            Run run = new Run().grow(2, 1);
            Kit.Block below = Kit.first();
            for (int i = 0; i < 3; i++) {
                below = i == wrong ? Run.behind(below, Run.spendNothing()) : Run.behind(below);
                run.put(below);
            }
            Edge.due("from " + wrong + " on", run.count(5), 3 - wrong);
            Edge.due("known", run.count(0), 6);
            run.tip("as before", run.tip());
        }
    }

    private static void badBeside() {
        Run run = new Run().grow(3, 1);
        Kit.Block right = Run.behind(Kit.first());
        Kit.Block wrong = Run.behind(right, Run.spendNothing());
        Kit.Block one = Run.behind(wrong);
        Kit.Block two = Run.behind(wrong);
        Kit.Block beside = Run.behind(right);
        run.put(right, wrong, one, two, beside);
        run.answers(0);
        Edge.due("nobody has looked", run.count(5), 0);
        Edge.due("one has more", run.code(Run.behind(one)), 22);
        Edge.due("the wrong one, both behind it, and the last", run.count(5), 4);
        Edge.due("behind the other one", run.code(Run.behind(two)), 22);
        Edge.due("which is not known", run.count(0), 10);
        Edge.due("behind the one beside", run.code(Run.behind(beside)), 0);
    }

    private static void asBefore() {
        Run run = Run.ripe(2);
        Kit.Tx waits = run.spend(1, 1).out(Run.RICH - 4);
        run.put(waits);
        Kit.Block below = run.tip();
        run.add(run.next(run.spend(1, 0).out(5)));
        long total = run.total();
        int coins = run.count(2);
        Kit.Block one = Run.behind(below, run.spend(1, 0).out(6));
        Kit.Block two = Run.behind(one, run.spend(1, 1).out(7), Run.spendNothing());
        run.put(one);
        run.answers(0);
        Edge.due("the second is wrong", run.code(two), 31);
        run.tip("as before", run.tip());
        Edge.due("total", run.total(), total);
        Edge.due("coins", run.count(2), coins);
        Edge.due("spent", run.value(run.root(1), 0), -1L);
        Edge.due("not spent", run.value(run.root(1), 1), Run.RICH);
        Edge.due("made", run.value(run.tip().txs.get(1), 0), 5L);
        Edge.due("the pool", run.fees(), 4L);
        Kit.Block three = Run.behind(one);
        run.put(three);
        run.tip("one is left, and may win", three);
    }
}
