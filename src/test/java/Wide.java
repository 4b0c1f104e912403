import java.util.ArrayList;
import java.util.Arrays;
import java.util.List;

/** A run whose pool may be filled: 48 coins that anybody may spend at once, as no first transaction made them. */
final class Wide {
    static final long EACH = Run.RICH / 8;
    static final int SIZE = 61;
    final Run run;
    private final List<Kit.Tx> makers = new ArrayList<>();

    Wide() {
        run = new Run().grow(8, 8);
        Kit.Block block = run.next();
        for (int i = 0; i < 6; i++) {
            Kit.Tx tx = run.spend(1, i);
            for (int j = 0; j < 8; j++) {
                tx.out(EACH);
            }
            block.with(tx);
            makers.add(tx);
        }
        run.add(block.mine());
        Edge.due("coins", run.count(2), 8 + 7 + 1 - 6 + 48);
    }

    /** A transaction of 61 bytes that spends one of the 48 coins and pays a fee. */
    Kit.Tx pay(int coin, long fee) {
        return new Kit.Tx().time(Run.mark()).in(makers.get(coin / 8), coin % 8, 81).out(EACH - fee);
    }

    /** Sends transactions with the coins from one to another, each with the fee, and more for each. */
    Wide fill(int from, int to, long fee, long step) {
        for (int i = from; i < to; i++) {
            run.put(pay(i, fee + step * (i - from)));
        }
        return this;
    }

    /**
     * Fills the pool with the transactions of four blocks that are left for another branch: nothing is told of them, so
     * that what waits for a peer is soon fetched. Peer 1 has nothing waiting then.
     */
    Wide fillByBranch(Kit.Tx... forty) {
        Kit.Block over = run.tip();
        for (int i = 0; i < 4; i++) {
            run.add(run.next(Arrays.copyOfRange(forty, 10 * i, 10 * i + 10)));
        }
        for (int i = 0; i < 5; i++) {
            over = Run.behind(over);
            run.put(over);
        }
        run.tip("over", over);
        Edge.due("40 wait", run.count(3), 40);
        run.answers(1);
        return this;
    }

    /** Forty that pay a fee, and each one more than the one before it. */
    Kit.Tx[] forty(long fee) {
        Kit.Tx[] out = new Kit.Tx[40];
        for (int i = 0; i < out.length; i++) {
            out[i] = pay(i, fee + i);
        }
        return out;
    }

    /** Sends from peer 1 and tells the code of the verdict. */
    int code(Kit.Tx tx) {
        List<String> answers = run.ask(1, tx.message());
        String name = Model.hex(tx.name());
        boolean isVerdict = answers.size() == 1 && answers.get(0).matches("08.." + name);
        return isVerdict ? Integer.parseInt(answers.get(0).substring(2, 4), 16) : -1;
    }
}
