import java.util.Arrays;
import java.util.List;

/** The edges of a transaction that is sent: its codes, the pool when it is full, and the pool made anew. */
final class SentTransactionEdges {
    private static final String ORDER = "A TRANSACTION that is sent:";
    private static final String C1 = "1 it is none";
    private static final String C2 = "2 it has no inputs, or no outputs";
    private static final String C3 = "3 a value is above 2100000000000000 (as a number without a sign), or all together are";
    private static final String C4 = "4 two inputs have one key";
    private static final String C5 = "5 it has a root input";
    private static final String C12 = "12 it is in the pool";
    private static final String C13 = "13 another one in the pool spends one of its keys";
    private static final String C7 = "7 an input's key has no coin in the chain of the tip and is no output of one in the pool (by "
            + "name and index), or the index is not 0 .. 2 ^ 31 - 1";
    private static final String C8 = "8 it has a coin as in 32, for the next height";
    private static final String C9 = "9 as in 33";
    private static final String C10 = "10 a script fails, or asks for the 9th signature of this transaction (looked at only when "
            + "it is sent)";
    private static final String C15 = "15 it spends a key with the name of one in the pool and an index that is not 0 .. its "
            + "outputs - 1, or one in the pool spends a key of its name and such an index";
    private static final String C14 = "14 it would hang on itself (it spends a key of its own name, or of that of one of its "
            + "family)";
    private static final String COMES = "else it comes into the pool.";
    private static final String FULL = "If there are more than 40 then, the one whose FAMILY (itself, those in the pool that spend "
            + "an output of its name, and so on) has the least fees by sizes in bytes (both summed up, exact; of like ones that "
            + "which came last) goes with its family; if it is among them: 11.";
    private static final String LIKE_OTHERS = "(For 8, 9 and 10 outputs of those in the pool are coins like others, of no first "
            + "transaction.)";
    private static final String ANEW = "With a new tip THE POOL IS MADE ANEW: all transactions but the first ones of the blocks "
            + "that were left, from the lowest height on, in their order, and then those that were in the pool, in the order in "
            + "which they came, come, as if sent (but that 10 is not looked at), into an empty one.";
    private static final long MOST = 2100000000000000L;
    private static final long RICH = Run.RICH;

    private SentTransactionEdges() {
    }

    static void all() {
        Edge.of(3, ORDER, "each code before the next one", SentTransactionEdges::order);
        Edge.of(3, C1, "a byte less, a byte more", SentTransactionEdges::none);
        Edge.of(3, C2, "no inputs, no outputs, neither", SentTransactionEdges::noInputs);
        Edge.of(3, C3, "the most, and one more", SentTransactionEdges::values);
        Edge.of(3, C3, "from 2 ^ 63 on", SentTransactionEdges::valuesWithoutSign);
        Edge.of(3, C3, "all together", SentTransactionEdges::valuesTogether);
        Edge.of(3, C4, "like in name and index, in one of them alone", SentTransactionEdges::likeKeys);
        Edge.of(3, C5, "the first input, the eighth, almost one", SentTransactionEdges::rootInputs);
        Edge.of(3, C12, "sent again, and when it has left the pool", SentTransactionEdges::sentAgain);
        Edge.of(3, C13, "the first key, the last one, another of the same name", SentTransactionEdges::spentInPool);
        Edge.of(3, C7, "no such name, no such index, spent", SentTransactionEdges::noCoin);
        Edge.of(3, C7, "the last output of one in the pool, and one more", SentTransactionEdges::noOutput);
        Edge.of(3, C7, "indexes 2 ^ 31 - 1, 2 ^ 31, 2 ^ 32 - 1", SentTransactionEdges::highIndexes);
        Edge.of(3, C8, "7 and 8 heights below the next one", SentTransactionEdges::tooYoung);
        Edge.of(3, C9, "as much, and one more", SentTransactionEdges::tooMuch);
        Edge.of(3, C10, "the first script, the last one", SentTransactionEdges::scripts);
        Edge.of(3, C10, "8 and 9 signatures, in one input and in two", SentTransactionEdges::signatures);
        Edge.of(3, C10, "8 in each of two transactions", SentTransactionEdges::signaturesOfEach);
        Edge.none(C15, "a key with that name and index has no coin, so 7 comes first; and one in the pool that spends it has "
                + "not come in");
        Edge.none(C14, "its name would stand in the bytes whose name it is");
        Edge.of(9, COMES, "one that pays nothing, one that spends what the pool makes", SentTransactionEdges::comes);
        Edge.of(9, FULL, "40 and 41", SentTransactionEdges::fortyOne);
        Edge.of(3, FULL, "the newest has the least: 11", SentTransactionEdges::newestIsLeast);
        Edge.of(10, FULL, "like ones: that which came last", SentTransactionEdges::likeOnes);
        Edge.of(10, FULL, "fees by sizes that are like, with other sizes", SentTransactionEdges::likeBySize);
        Edge.of(10, FULL, "fees by sizes that are almost like", SentTransactionEdges::exact);
        Edge.of(10, FULL, "no fees at all", SentTransactionEdges::noFees);
        Edge.of(10, FULL, "a poor parent with a rich child", SentTransactionEdges::richChild);
        Edge.of(10, FULL, "a poor parent with a poor child", SentTransactionEdges::poorFamily);
        Edge.of(10, FULL, "and so on: grandchildren", SentTransactionEdges::grandchildren);
        Edge.of(10, FULL, "a child of two parents counts once", SentTransactionEdges::twoParents);
        Edge.of(10, FULL, "the newest goes with its family", SentTransactionEdges::newestInFamily);
        Edge.of(3, "Otherwise 0.", "when another one goes", SentTransactionEdges::otherwise);
        Edge.of(3, LIKE_OTHERS, "8: of no age", SentTransactionEdges::noAge);
        Edge.of(3, LIKE_OTHERS, "9 and 10: their values and scripts", SentTransactionEdges::valuesOfThePool);
        Edge.of(10, ANEW, "a block takes one, and what spends the same goes", SentTransactionEdges::taken);
        Edge.of(10, ANEW, "no new tip", SentTransactionEdges::noNewTip);
        Edge.of(10, ANEW, "first those of the blocks that were left", SentTransactionEdges::leftFirst);
        Edge.of(10, ANEW, "from the lowest height on, in their order", SentTransactionEdges::lowestFirst);
        Edge.of(10, ANEW, "not the first ones", SentTransactionEdges::notFirstOnes);
        Edge.of(10, ANEW, "9 signatures, and a chain that is less high", SentTransactionEdges::asIfSent);
        Edge.of(10, ANEW, "more than 40 come", SentTransactionEdges::moreThanForty);
    }

    private static void order() {
        Run run = Run.ripe(4);
        run.answers(0);
        Edge.due("2 before 3", run.code(new Kit.Tx().out(-1)), 2);
        byte[] name = Kit.repeated(5, 32);
        Edge.due("3 before 4", run.code(new Kit.Tx().in(name, 0, new byte[0]).in(name, 0, new byte[0]).out(-1)), 3);
        Edge.due("4 before 5", run.code(Kit.root(1).in(new byte[32], 4294967295L, new byte[0]).out(1)), 4);
        Kit.Tx waits = run.spend(1, 0).out(5);
        Edge.due("it waits", run.code(waits), 0);
        Edge.due("5 before 13", run.code(run.spend(1, 0).in(new byte[32], 4294967295L, new byte[0]).out(1)), 5);
        Edge.due("12 before 13", run.code(waits), 12);
        Edge.due("13 before 7", run.code(run.spend(1, 0).in(name, 0, new byte[0]).out(1)), 13);
        Edge.due("7 before 8", run.code(run.spend(2, 0).in(name, 0, new byte[0]).out(1)), 7);
        Edge.due("8 before 9", run.code(run.spend(2, 0).out(9 * RICH)), 8);
        Edge.due("9 before 10", run.code(new Kit.Tx().in(run.root(1), 1, 0).out(9 * RICH)), 9);
    }

    private static void none() {
        Run run = Run.ripe(1);
        run.answers(0);
        byte[] message = run.spend(1, 0).out(1).message();
        Edge.due("a byte less", run.code(Arrays.copyOf(message, message.length - 1)), 1);
        Edge.due("a byte more", run.code(Arrays.copyOf(message, message.length + 1)), 1);
        Edge.due("no bytes", run.code(Kit.bytes(1)), 1);
        Edge.due("none waits", run.count(3), 0);
        Edge.due("as it is", run.code(message), 0);
    }

    private static void noInputs() {
        Run run = new Run();
        Edge.due("neither", run.code(new Kit.Tx()), 2);
        Edge.due("no inputs", run.code(new Kit.Tx().out(1)), 2);
        Kit.Tx tx = Run.spendNothing();
        tx.outs.clear();
        Edge.due("no outputs", run.code(tx), 2);
        Edge.due("one of each", run.code(tx.out(1)), 7);
    }

    private static void values() {
        Run run = new Run();
        for (long value : new long[] {0, 1, MOST - 1, MOST, MOST + 1}) {
            Kit.Tx tx = Run.spendNothing();
            tx.outs.get(0).value = value;
            Edge.due("value " + value, run.code(tx), value <= MOST ? 7 : 3);
        }
        Kit.Tx last = Run.spendNothing();
        last.outs.clear();
        for (int i = 0; i < 7; i++) {
            last.out(0);
        }
        Edge.due("the eighth is the most", run.code(last.out(MOST)), 7);
        last.outs.get(7).value++;
        Edge.due("the eighth is one more", run.code(last), 3);
    }

    private static void valuesWithoutSign() {
        Run run = new Run();
        for (long value : new long[] {Long.MAX_VALUE, Long.MIN_VALUE, Long.MIN_VALUE + 5, -MOST, -1}) {
            Kit.Tx tx = Run.spendNothing();
            tx.outs.get(0).value = value;
            Edge.due("value " + value, run.code(tx), 3);
            Edge.due("and what brings it back to 5", run.code(tx.out(5 - value)), 3);
        }
        Kit.Tx four = Run.spendNothing();
        four.outs.get(0).value = 5;
        for (int i = 0; i < 4; i++) {
            four.out(1L << 62);
        }
        Edge.due("four times 2 ^ 62, and 5", run.code(four), 3);
    }

    private static void valuesTogether() {
        Run run = new Run();
        Kit.Tx two = Run.spendNothing();
        two.outs.get(0).value = MOST / 2;
        Edge.due("the most", run.code(two.out(MOST / 2)), 7);
        two.outs.get(1).value++;
        Edge.due("one more", run.code(two), 3);
        Kit.Tx eight = Run.spendNothing();
        eight.outs.clear();
        for (int i = 0; i < 8; i++) {
            eight.out(MOST / 8);
        }
        Edge.due("eight times an eighth", run.code(eight), 7);
        eight.outs.get(7).value++;
        Edge.due("one more", run.code(eight), 3);
        for (Kit.Out out : eight.outs) {
            out.value = MOST;
        }
        Edge.due("eight times the most", run.code(eight), 3);
    }

    private static void likeKeys() {
        Run run = new Run();
        byte[] name = Kit.repeated(5, 32);
        byte[] other = Kit.repeated(5, 32);
        other[0] ^= 1;
        Kit.Tx like = new Kit.Tx().in(name, 7, Kit.bytes(1)).in(name, 7, Kit.bytes(2)).out(1);
        like.ins.get(1).sequence = 0;
        Edge.due("name and index", run.code(like), 4);
        Edge.due("the name alone", run.code(new Kit.Tx().in(name, 7, new byte[0]).in(name, 8, new byte[0]).out(1)), 7);
        Edge.due("the index alone", run.code(new Kit.Tx().in(name, 7, new byte[0]).in(other, 7, new byte[0]).out(1)), 7);
        Kit.Tx eight = new Kit.Tx().out(1);
        for (int i = 0; i < 8; i++) {
            eight.in(name, i, new byte[0]);
        }
        Edge.due("eight others", run.code(eight), 7);
        eight.ins.get(7).index = 6;
        Edge.due("the last two", run.code(eight), 4);
        eight.ins.get(7).index = 0;
        Edge.due("the first and the last", run.code(eight), 4);
    }

    private static void rootInputs() {
        Run run = new Run();
        Edge.due("alone", run.code(Kit.root(1).out(1)), 5);
        Kit.Tx eight = Run.spendNothing();
        for (int i = 1; i < 7; i++) {
            eight.in(Kit.repeated(i, 32), 0, new byte[0]);
        }
        eight.in(new byte[32], 4294967295L, new byte[0]);
        Edge.due("the eighth", run.code(eight), 5);
        eight.ins.get(7).index = 4294967294L;
        Edge.due("an index less", run.code(eight), 7);
        eight.ins.get(7).index = 4294967295L;
        eight.ins.get(7).name[31] = 1;
        Edge.due("a name not all 0", run.code(eight), 7);
        run = new Run().grow(1, 1);
        run.answers(0);
        Edge.due("one that is in the chain", run.code(run.root(1)), 5);
    }

    private static void sentAgain() {
        Run run = Run.ripe(1);
        run.answers(0);
        Kit.Tx tx = run.spend(1, 0).out(1);
        Edge.due("sent", run.code(tx), 0);
        Edge.due("again", run.code(tx), 12);
        Edge.due("once", run.count(3), 1);
        run.add(run.next(tx));
        run.answers(0);
        Edge.due("it has left the pool, and its coin is spent", run.code(tx), 7);
    }

    private static void spentInPool() {
        Run run = Run.ripe(4);
        run.answers(0);
        Kit.Tx tx = run.spend(1, 0).in(run.root(1), 1, 81).out(1).out(2);
        Edge.due("sent", run.code(tx), 0);
        Edge.due("its first key", run.code(run.spend(1, 0).out(1)), 13);
        Edge.due("its last key, as the last one", run.code(run.spend(1, 2).in(run.root(1), 1, 81).out(1)), 13);
        Edge.due("another of the same name", run.code(run.spend(1, 3).out(1)), 0);
        Kit.Tx child = new Kit.Tx().in(tx, 0, 81).out(0);
        Edge.due("what the pool makes", run.code(child), 0);
        Edge.due("twice", run.code(new Kit.Tx().time(5).in(tx, 0, 81).out(0)), 13);
        Edge.due("the other output", run.code(new Kit.Tx().in(tx, 1, 81).out(0)), 0);
    }

    private static void noCoin() {
        Run run = Run.ripe(2);
        run.answers(0);
        Edge.due("no such name", run.code(Run.spendNothing()), 7);
        Edge.due("index 2 of 2", run.code(run.spend(1, 2).out(1)), 7);
        Edge.due("the last input", run.code(run.spend(1, 0).in(Kit.repeated(3, 32), 0, new byte[0]).out(1)), 7);
        Kit.Tx tx = run.spend(1, 0).out(1);
        run.add(run.next(tx));
        run.answers(0);
        Edge.due("spent in the chain", run.code(run.spend(1, 0).out(1)), 7);
        Kit.Block beside = Run.behind(run.chain.get(8), run.spend(1, 1).out(3));
        run.put(beside);
        run.answers(0);
        Edge.due("in another branch alone", run.code(new Kit.Tx().in(beside.txs.get(1), 0, 81).out(1)), 7);
        Edge.due("spent in another branch alone", run.code(run.spend(1, 1).out(1)), 0);
    }

    private static void noOutput() {
        Run run = Run.ripe(1);
        run.answers(0);
        Kit.Tx tx = run.spend(1, 0);
        for (int i = 0; i < 8; i++) {
            tx.out(i);
        }
        Kit.Tx child = new Kit.Tx().in(tx, 7, 81).out(7);
        Edge.due("before it has come", run.code(child), 7);
        Edge.due("it comes", run.code(tx), 0);
        Edge.due("index 8 of 8", run.code(new Kit.Tx().in(tx, 8, 81).out(0)), 7);
        Edge.due("index 2 ^ 32 - 1", run.code(new Kit.Tx().in(tx, -1, 81).out(0)), 7);
        Edge.due("index 7 of 8", run.code(child), 0);
    }

    private static void highIndexes() {
        Run run = Run.ripe(1);
        run.answers(0);
        for (long index : new long[] {1, 255, 256, 65536, 16777216, 2147483647L, 2147483648L, 4294967294L, 4294967295L}) {
            Kit.Tx tx = run.spend(1, 0).out(1);
            tx.ins.get(0).index = index;
            Edge.due("index " + index, run.code(tx), 7);
        }
        Edge.due("index 0", run.code(run.spend(1, 0).out(1)), 0);
    }

    private static void tooYoung() {
        Run run = new Run().grow(7, 1);
        run.answers(0);
        Edge.due("1 for 8", run.code(run.spend(1, 0).out(1)), 8);
        run.add(run.next());
        run.answers(0);
        Edge.due("2 for 9", run.code(run.spend(2, 0).out(1)), 8);
        Edge.due("the tip's own", run.code(run.spend(8, 0).out(1)), 8);
        Edge.due("the last input", run.code(run.spend(1, 0).in(run.root(2), 0, 81).out(1)), 8);
        Edge.due("1 for 9", run.code(run.spend(1, 0).out(1)), 0);
    }

    private static void tooMuch() {
        Run run = Run.ripe(4);
        run.answers(0);
        Edge.due("one more", run.code(run.spend(1, 0).out(RICH + 1)), 9);
        Edge.due("one more together", run.code(run.spend(1, 0).out(RICH).out(1)), 9);
        Edge.due("one more than two", run.code(run.spend(1, 0).in(run.root(1), 1, 81).out(2 * RICH + 1)), 9);
        Edge.due("as much", run.code(run.spend(1, 0).out(RICH)), 0);
        Edge.due("as much as two", run.code(run.spend(1, 1).in(run.root(1), 2, 81).out(2 * RICH)), 0);
        Edge.due("nothing", run.code(run.spend(1, 3).out(0)), 0);
        Edge.due("fees", run.fees(), RICH);
    }

    private static void scripts() {
        Run run = Run.ripe(8);
        run.answers(0);
        Kit.Tx tx = new Kit.Tx().in(run.root(1), 0, 0).out(1);
        for (int i = 1; i < 8; i++) {
            tx.in(run.root(1), i, 81);
        }
        Edge.due("the first", run.code(tx), 10);
        tx.ins.get(0).script = Kit.bytes(81);
        tx.ins.get(7).script = Kit.bytes(81, 106);
        Edge.due("the last", run.code(tx), 10);
        tx.ins.get(7).script = Kit.bytes(82);
        Edge.due("none", run.code(tx), 0);
    }

    private static Kit.Tx asks(Run run, int output, int many) {
        return new Kit.Tx().time(Run.mark()).in(run.root(1).name(), output, BlockEdges.asking(many)).out(1);
    }

    private static void signatures() {
        Run run = Run.ripe(4);
        run.answers(0);
        Edge.due("9", run.code(asks(run, 0, 9)), 10);
        Edge.due("24", run.code(asks(run, 0, 24)), 10);
        Edge.due("5 and 4", run.code(asks(run, 0, 5).in(run.root(1).name(), 1, BlockEdges.asking(4))), 10);
        Edge.due("8 and 1", run.code(asks(run, 0, 8).in(run.root(1).name(), 1, BlockEdges.asking(1))), 10);
        Edge.due("8", run.code(asks(run, 0, 8)), 0);
        Edge.due("4 and 4", run.code(asks(run, 1, 4).in(run.root(1).name(), 2, BlockEdges.asking(4))), 0);
        Edge.due("9 in a block", run.code(run.next(asks(run, 3, 9))), 0);
    }

    private static void signaturesOfEach() {
        Run run = Run.ripe(3);
        run.answers(0);
        for (int i = 0; i < 3; i++) {
            Edge.due("8 of " + i, run.code(asks(run, i, 8)), 0);
        }
    }

    private static void comes() {
        Run run = Run.ripe(1);
        run.answers(0);
        Kit.Tx free = run.spend(1, 0).out(RICH);
        Edge.due("no fee", run.code(free), 0);
        Edge.due("one", run.count(3), 1);
        Kit.Tx child = new Kit.Tx().in(free, 0, 81).out(RICH);
        Edge.due("a child", run.code(child), 0);
        Edge.due("two", run.count(3), 2);
        Edge.due("no coin of it", run.value(child, 0), -1L);
        Edge.due("no coin is spent", run.value(run.root(1), 0), RICH);
        run.put(run.next(free, child));
        Edge.due("none", run.count(3), 0);
    }

    private static void fortyOne() {
        Wide wide = new Wide().fill(0, 39, 1000, 1);
        Run run = wide.run;
        Edge.due("39", run.count(3), 39);
        wide.fill(39, 40, 999, 0);
        Edge.due("40 stay", run.count(3), 40);
        long fees = run.fees();
        wide.fill(40, 41, 5000, 0);
        Edge.due("40 of 41 stay", run.count(3), 40);
        Edge.due("the least is gone", run.fees(), fees - 999 + 5000);
        wide.fill(41, 42, 5000, 0);
        Edge.due("40 of 41 stay", run.count(3), 40);
        Edge.due("the least is gone", run.fees(), fees - 999 + 5000 - 1000 + 5000);
    }

    private static void newestIsLeast() {
        Wide wide = new Wide();
        Run run = wide.fillByBranch(wide.forty(1000)).run;
        Edge.due("the fees of 40", run.fees(), fees(1000, 40));
        Edge.due("less than the least", wide.code(wide.pay(40, 999)), 11);
        Edge.due("nothing has changed", run.fees(), fees(1000, 40));
        Edge.due("as much as the least, but later", wide.code(wide.pay(40, 1000)), 11);
        Edge.due("nothing has changed", run.fees(), fees(1000, 40));
        Edge.due("more", wide.code(wide.pay(40, 1001)), 0);
        Edge.due("the least is gone", run.fees(), fees(1000, 40) - 1000 + 1001);
    }

    private static void likeOnes() {
        // all alike: the newest goes
        Wide wide = new Wide().fill(0, 40, 1000, 0);
        Run run = wide.run;
        Kit.Tx first = wide.pay(40, 1000);
        run.put(first);
        Edge.due("40", run.count(3), 40);
        run.put(new Kit.Tx().in(first, 0, 81).out(0));
        Edge.due("the newest is not there", run.fees(), 40 * 1000L);
        // of two like ones below all others the later goes: its child has no coin then
        wide = new Wide();
        run = wide.run;
        Kit.Tx early = wide.pay(0, 500);
        Kit.Tx late = wide.pay(1, 500);
        run.put(early, late);
        wide.fill(2, 41, 1000, 0);
        Edge.due("40", run.count(3), 40);
        Edge.due("one of them is gone", run.fees(), 500 + 39 * 1000L);
        run.put(new Kit.Tx().time(1).in(late, 0, 81).out(Wide.EACH - 500 - 3000));
        Edge.due("it is the later", run.fees(), 500 + 39 * 1000L);
        // a child brings the pool to 41 again: the early one with it is not the least then
        run.put(new Kit.Tx().time(1).in(early, 0, 81).out(Wide.EACH - 500 - 3000));
        Edge.due("the early one has a child", run.fees(), 500 + 3000 + 38 * 1000L);
    }

    /** A transaction of 122 bytes that pays a fee. */
    private static Kit.Tx twiceAsLong(Wide wide, int coin, long fee) {
        Kit.Tx tx = wide.pay(coin, fee);
        tx.outs.get(0).script = Kit.repeated(97, 2 * Wide.SIZE - tx.bytes().length);
        Edge.due("size", tx.bytes().length, 2 * Wide.SIZE);
        return tx;
    }

    private static void likeBySize() {
        for (boolean longFirst : new boolean[] {true, false}) {
            Wide wide = new Wide();
            Run run = wide.run;
            Kit.Tx twice = twiceAsLong(wide, 0, 1000);
            Kit.Tx once = wide.pay(1, 500);
            run.put(longFirst ? twice : once, longFirst ? once : twice);
            wide.fill(2, 41, 700, 0);
            Edge.due("the later is gone", run.fees(), 39 * 700L + (longFirst ? 1000 : 500));
        }
    }

    private static void exact() {
        // 1000 by 122 and 500 by 61 are like; one less, or one more, is not, though both are 8 when rounded down
        for (int more : new int[] {-1, 1}) {
            Wide wide = new Wide();
            Run run = wide.run;
            run.put(twiceAsLong(wide, 0, 1000 + more), wide.pay(1, 500));
            wide.fill(2, 41, 700, 0);
            Edge.due("the less dear is gone", run.fees(), 39 * 700L + (more < 0 ? 500 : 1001));
        }
        for (int more : new int[] {-1, 1}) {
            Wide wide = new Wide();
            Run run = wide.run;
            run.put(wide.pay(1, 500), twiceAsLong(wide, 0, 1000 + more));
            wide.fill(2, 41, 700, 0);
            Edge.due("the less dear is gone", run.fees(), 39 * 700L + (more < 0 ? 500 : 1001));
        }
    }

    private static void noFees() {
        Wide wide = new Wide();
        Run run = wide.run;
        run.put(twiceAsLong(wide, 0, 0));
        wide.fill(1, 39, 0, 0);
        Kit.Tx late = wide.pay(39, 0);
        run.put(late);
        Edge.due("40 pay nothing", run.count(3), 40);
        wide.fill(40, 41, 1, 0);
        Edge.due("one that pays stays", run.fees(), 1L);
        run.put(new Kit.Tx().in(late, 0, 81).out(0));
        Edge.due("the last of those that pay nothing is gone", run.fees(), 1L);
        run.put(wide.pay(0, 7));
        Edge.due("the first, though longer, waits still", run.fees(), 1L);
        wide.fill(41, 42, 0, 0);
        Edge.due("one more that pays nothing does not stay", run.count(3), 40);
    }

    private static Kit.Tx child(Kit.Tx parent, long fee) {
        return new Kit.Tx().time(Run.mark()).in(parent, 0, 81).out(parent.outs.get(0).value - fee);
    }

    private static void richChild() {
        Wide wide = new Wide();
        Run run = wide.run;
        Kit.Tx parent = wide.pay(0, 0);
        Kit.Tx child = child(parent, 4000);
        run.put(parent, child);
        wide.fill(1, 40, 1000, 1);
        Edge.due("40", run.count(3), 40);
        // 4000 by two is more than 1000 by one
        Edge.due("one of the others is gone", run.fees(), 4000 + fees(1000, 39) - 1000);
    }

    /** The sum of so many fees, each one more than the one before it. */
    private static long fees(long first, int many) {
        return many * first + many * (many - 1) / 2;
    }

    private static void poorFamily() {
        Wide wide = new Wide();
        Run run = wide.run;
        Kit.Tx parent = wide.pay(0, 0);
        Kit.Tx child = child(parent, 1200);
        run.put(parent, child);
        wide.fill(1, 40, 1000, 1);
        Edge.due("both are gone", run.count(3), 39);
        Edge.due("fees", run.fees(), fees(1000, 39));
        // as much by size as the others: the later of them goes, not the family
        wide = new Wide();
        run = wide.run;
        parent = wide.pay(0, 0);
        run.put(parent, child(parent, 2000));
        wide.fill(1, 40, 1000, 0);
        Edge.due("40 are left", run.count(3), 40);
        Edge.due("the newest is gone", run.fees(), 2000 + 38 * 1000L);
    }

    private static void grandchildren() {
        for (long last : new long[] {5000, 100}) {
            Wide wide = new Wide();
            Run run = wide.run;
            Kit.Tx parent = wide.pay(0, 0);
            Kit.Tx child = child(parent, 0);
            Kit.Tx grandchild = child(child, last);
            run.put(parent, child, grandchild);
            wide.fill(1, 39, 1000, 1);
            Edge.due("all three go or stay", run.count(3), last == 5000 ? 40 : 38);
            Edge.due("fees", run.fees(), fees(1000, 38) + (last == 5000 ? 5000 - 1000 : 0));
        }
    }

    private static void twoParents() {
        // both parents' outputs go to one child: each one's family is itself and the child
        Wide wide = new Wide();
        Run run = wide.run;
        Kit.Tx one = wide.pay(0, 0);
        Kit.Tx two = wide.pay(1, 500);
        Kit.Tx child = new Kit.Tx().in(one, 0, 81).in(two, 0, 81).out(2 * Wide.EACH - 500 - 900);
        run.put(one, two, child);
        wide.fill(2, 40, 1000, 1);
        Edge.due("one and the child are gone", run.count(3), 39);
        Edge.due("two has stayed", run.fees(), 500 + fees(1000, 38));
        // an output twice used by one child's two inputs, and a grandchild that spends of both, count once
        wide = new Wide();
        run = wide.run;
        Kit.Tx parent = wide.pay(0, 0);
        parent.outs.get(0).value = 1000;
        parent.out(Wide.EACH - 1000);
        Kit.Tx son = new Kit.Tx().in(parent, 0, 81).out(1000);
        Kit.Tx both = new Kit.Tx().in(parent, 1, 81).in(son, 0, 81).out(Wide.EACH - 2800);
        run.put(parent, son, both);
        wide.fill(1, 39, 1000, 1);
        Edge.due("2800 by the sizes of three is the least", run.count(3), 38);
        Edge.due("they are gone", run.fees(), fees(1000, 38));
    }

    private static void newestInFamily() {
        Wide wide = new Wide();
        Kit.Tx[] forty = wide.forty(1199);
        Kit.Tx parent = wide.pay(0, 1100);
        forty[0] = parent;
        Run run = wide.fillByBranch(forty).run;
        // the child pays enough for itself, but its parent's family has less than all others
        Edge.due("it brings its parent down, and goes with it", wide.code(child(parent, 1250)), 11);
        Edge.due("39", run.count(3), 39);
        Edge.due("fees", run.fees(), fees(1200, 39));
        Edge.due("the parent may come again", wide.code(parent), 0);
        Edge.due("with a child that pays more", wide.code(child(parent, 1400)), 0);
        Edge.due("the least of the others is gone", run.fees(), fees(1200, 39) - 1200 + 1100 + 1400);
    }

    private static void otherwise() {
        Wide wide = new Wide();
        Run run = wide.fillByBranch(wide.forty(1000)).run;
        Edge.due("another one goes", wide.code(wide.pay(40, 2000)), 0);
        Edge.due("40", run.count(3), 40);
        Edge.due("the one that is gone may not come again", wide.code(wide.pay(0, 1000)), 11);
    }

    private static void noAge() {
        Run run = Run.ripe(1);
        run.answers(0);
        Kit.Tx tx = run.spend(1, 0).out(5);
        Edge.due("it comes", run.code(tx), 0);
        Edge.due("at once", run.code(child(tx, 1)), 0);
        run.add(run.next(tx));
        run.answers(0);
        Edge.due("in the chain, at once", run.code(child(tx, 2)), 13);
        Edge.due("the child waits still", run.fees(), 1L);
    }

    private static void valuesOfThePool() {
        Run run = Run.ripe(1);
        run.answers(0);
        Kit.Tx tx = run.spend(1, 0).out(5, 82, 135).out(6, 106);
        Edge.due("it comes", run.code(tx), 0);
        Edge.due("9: one more", run.code(new Kit.Tx().in(tx, 0, 82).out(6)), 9);
        Edge.due("10: another number", run.code(new Kit.Tx().in(tx, 0, 83).out(5)), 10);
        Edge.due("10: its own lock", run.code(new Kit.Tx().in(tx, 1, 82).out(5)), 10);
        Edge.due("just so", run.code(new Kit.Tx().in(tx, 0, 82).out(5)), 0);
        run = Run.ripe(1);
        run.answers(0);
        Kit.Tx mixed = run.spend(1, 0).out(5);
        Edge.due("it comes", run.code(mixed), 0);
        Edge.due("of pool and chain, young", run.code(new Kit.Tx().in(mixed, 0, 81).in(run.root(2), 0, 81).out(6)), 8);
    }

    private static void taken() {
        Run run = Run.ripe(4);
        Kit.Tx one = run.spend(1, 0).out(RICH - 1);
        Kit.Tx child = child(one, 2);
        Kit.Tx against = run.spend(1, 1).out(RICH - 4);
        Kit.Tx itsChild = child(against, 8);
        Kit.Tx other = run.spend(1, 2).out(RICH - 16);
        run.put(one, child, against, itsChild, other);
        Edge.due("all wait", run.fees(), 31L);
        run.add(run.next(one, run.spend(1, 1).out(3)));
        Edge.due("one is in the block, the child stays, what was against it is gone with its child", run.fees(), 2L + 16);
        Edge.due("two", run.count(3), 2);
    }

    private static void noNewTip() {
        Run run = Run.ripe(2);
        Kit.Block below = run.tip();
        run.add(run.next());
        Kit.Tx one = run.spend(1, 0).out(RICH - 1);
        run.put(one);
        run.put(Run.behind(below, run.spend(1, 0).out(3)));
        Edge.due("one beside", run.fees(), 1L);
        run.put(run.next(run.spend(1, 0).out(4), Run.spendNothing()));
        Edge.due("a bad one", run.fees(), 1L);
        Edge.due("it was looked at", run.count(5), 1);
        run.put(run.tip());
        Edge.due("one that is known", run.fees(), 1L);
    }

    private static void leftFirst() {
        Run run = Run.ripe(4);
        Kit.Block below = run.tip();
        Kit.Tx inBlock = run.spend(1, 0).out(RICH - 1);
        Kit.Tx inBoth = run.spend(1, 1).out(RICH - 2);
        run.add(run.next(inBlock, inBoth));
        Kit.Tx waits = run.spend(1, 2).out(RICH - 4);
        Kit.Tx child = child(inBlock, 8);
        run.put(waits, child);
        Kit.Block beside = Run.behind(below, run.spend(1, 1).out(9));
        Kit.Block over = Run.behind(beside);
        run.put(beside, over);
        run.tip("over", over);
        Edge.due("the one that is spent here does not come", run.fees(), 1L + 4 + 8);
        Edge.due("three", run.count(3), 3);
        // one that waits and one that is left spend the same: the one that is left comes first
        Run two = Run.ripe(1);
        Kit.Block base = two.tip();
        Kit.Block a = two.next(two.spend(1, 0).out(RICH - 32));
        Kit.Block b = Run.behind(base);
        Kit.Block c = Run.behind(b);
        two.put(b);
        Kit.Tx rival = two.spend(1, 0).out(RICH - 64);
        two.put(rival);
        Kit.Block d = Run.behind(a);
        two.put(a, d);
        Edge.due("over: the rival's coin is spent", two.count(3), 0);
        two.put(c, Run.behind(c));
        Edge.due("back: that of the block waits", two.fees(), 32L);
    }

    private static void lowestFirst() {
        Run run = Run.ripe(2);
        Kit.Block below = run.tip();
        Kit.Tx one = run.spend(1, 0).out(RICH - 1);
        Kit.Tx two = child(one, 2);
        Kit.Tx three = child(two, 4);
        Kit.Tx four = child(three, 8);
        run.add(run.next(one, two));
        run.add(run.next(three, four));
        Kit.Block a = Run.behind(below);
        Kit.Block b = Run.behind(a);
        Kit.Block c = Run.behind(b);
        run.put(a, b, c);
        run.tip("over", c);
        Edge.due("each finds the coin of the one before it", run.fees(), 15L);
        Edge.due("four", run.count(3), 4);
    }

    private static void notFirstOnes() {
        Run run = Run.ripe(1);
        Kit.Block below = run.tip();
        run.add(run.next());
        run.add(run.next());
        Kit.Block a = Run.behind(below);
        Kit.Block b = Run.behind(a);
        Kit.Block c = Run.behind(b);
        run.put(a, b, c);
        run.tip("over", c);
        Edge.due("none waits", run.count(3), 0);
        Edge.due("their coins are gone", run.value(run.root(9), 0), -1L);
    }

    private static void asIfSent() {
        Run run = Run.ripe(2);
        Kit.Block below = run.tip();
        Kit.Tx nine = asks(run, 0, 9);
        run.answers(0);
        Edge.due("9 signatures", run.code(nine), 10);
        run.add(run.next(nine));
        Kit.Block a = Run.behind(below);
        Kit.Block b = Run.behind(a);
        run.put(a, b);
        Edge.due("10 is not looked at", run.count(3), 1);
        Edge.due("its fee", run.fees(), RICH - 1);
        // over to a chain that is less high, but has more work: a coin is too young for its next height
        Run high = new Run();
        for (int i = 1; i <= 3; i++) {
            high.add(at(high.tip(), Kit.FIRST_TIME + i));
        }
        Kit.Block fork = high.tip();
        for (int i = 4; i <= 10; i++) {
            high.add(at(high.tip(), Kit.FIRST_TIME + 4000 + 400 * i));
        }
        high.answers(0);
        Kit.Tx young = high.spend(3, 0).out(0);
        Edge.due("old enough for 11", high.code(young), 0);
        Kit.Block quick = fork;
        for (int i = 4; i <= 8; i++) {
            quick = at(quick, i == 7 ? Kit.FIRST_TIME + 1200 : quick.time + 1);
            high.put(quick);
        }
        high.tip("less high", quick);
        Edge.due("too young for 9", high.count(3), 0);
    }

    private static Kit.Block at(Kit.Block below, long time) {
        Kit.Block block = Run.behind(below);
        block.time = time;
        return block.mine();
    }

    private static void moreThanForty() {
        Wide wide = new Wide();
        Run run = wide.run;
        Kit.Block below = run.tip();
        for (int i = 0; i < 4; i++) {
            Kit.Block block = run.next();
            for (int j = 0; j < 11; j++) {
                block.with(wide.pay(11 * i + j, 1000 + 11 * i + j));
            }
            run.add(block.mine());
        }
        Edge.due("44 are in blocks", run.count(1), 13);
        run.put(wide.pay(44, 5000));
        Kit.Block over = below;
        for (int i = 0; i < 5; i++) {
            over = Run.behind(over);
            run.put(over);
        }
        run.tip("over", over);
        Edge.due("40 stay", run.count(3), 40);
        Edge.due("the dearest", run.fees(), 5000 + fees(1005, 39));
    }
}
