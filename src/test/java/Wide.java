import java.util.ArrayList;
import java.util.List;

/** A run whose pool may be filled: 48 coins that anybody may spend at once, as no first transaction made them. */
final class Wide {
    static final long EACH = Run.RICH / 8;
    static final int SIZE = 61;
    final Run run;
    private final List<Kit.Tx> makers = new ArrayList<>();

    Wide(boolean isLong) {
        run = new Run(isLong).grow(8, 8);
        Kit.Block block = run.next();
        for (int i = 0; i < 6; i++) {
            Kit.Tx tx = run.spend(1, i);
            for (int j = 0; j < 8; j++) {
                tx.out(EACH);
            }
            block.with(tx);
            makers.add(tx);
        }
        run.add(block.mine());
        Edge.due("coins", run.count(2), 8 + 7 + 1 - 6 + 48);
    }

    /** A transaction of 61 bytes that spends one of the 48 coins and pays a fee. */
    Kit.Tx pay(int coin, long fee) {
        return new Kit.Tx().time(Run.mark()).in(makers.get(coin / 8), coin % 8, 81).out(EACH - fee);
    }

    /** Sends transactions with the coins from one to another, each with the fee, and more for each. */
    Wide fill(int from, int to, long fee, long step) {
        for (int i = from; i < to; i++) {
            run.put(pay(i, fee + step * (i - from)));
        }
        return this;
    }
}
