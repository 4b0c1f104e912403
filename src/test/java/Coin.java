import java.util.ArrayList;
import java.util.Arrays;
import java.util.List;

/** A coin whose lock is empty, so that the script of the input that spends it tells alone whether that holds. */
final class Coin {
    private static Run run;
    private static Kit.Tx maker;
    private static int number;

    private Coin() {
    }

    /** The next test begins with a node of its own. */
    static void forget() {
        run = null;
    }

    private static void ready(int calls) {
        if (run == null || run.calls + calls > Run.MOST_CALLS || run.count(3) > 36) {
            run = Run.ripe(1);
            run.answers(0);
            maker = run.root(1);
            number = 0;
        }
    }

    /** Whether a transaction that spends the coin with this script may wait. */
    static boolean holds(byte[] script) {
        ready(40);
        Kit.Tx tx = new Kit.Tx().time(Run.mark()).in(maker.name(), number, script).out(0);
        return comes(tx, 0);
    }

    /** Whether it may if the coin has a lock. */
    static boolean holds(byte[] script, byte[] lock) {
        ready(80);
        Kit.Tx locked = new Kit.Tx().time(Run.mark()).in(maker.name(), number, Kit.bytes(81));
        locked.out(0).outs.add(new Kit.Out(0, lock));
        Edge.due("the lock", comes(locked, 0), true);
        Kit.Tx tx = new Kit.Tx().time(Run.mark()).in(locked.name(), 1, script).out(0);
        int code = run.code(tx);
        Edge.due("0 or 10, not " + code, code == 0 || code == 10, true);
        return code == 0;
    }

    private static boolean comes(Kit.Tx tx, int output) {
        int code = run.code(tx);
        Edge.due("0 or 10, not " + code, code == 0 || code == 10, true);
        if (code == 0) {
            maker = tx;
            number = output;
        }
        return code == 0;
    }

    static void yes(Object... parts) {
        Edge.due(Model.hex(Kit.script(parts)), holds(Kit.script(parts)), true);
    }

    static void no(Object... parts) {
        Edge.due(Model.hex(Kit.script(parts)), holds(Kit.script(parts)), false);
    }

    /** The script leaves just these elements, the last one on top. */
    static void leaves(Object[] script, byte[]... elements) {
        List<Object> parts = new ArrayList<>(Arrays.asList(script));
        parts.addAll(Arrays.asList(116, Scripts.bytes(java.math.BigInteger.valueOf(elements.length)), 136));
        for (int i = elements.length - 1; i >= 0; i--) {
            parts.add(elements[i]);
            parts.add(136);
        }
        parts.add(81);
        yes(parts.toArray());
    }

    static Object[] s(Object... parts) {
        return parts;
    }

    static byte[] b(int... ones) {
        return Kit.bytes(ones);
    }

    /** So many times the same code. */
    static Object[] times(int often, Object code) {
        Object[] out = new Object[often];
        Arrays.fill(out, code);
        return out;
    }

    static Object[] all(Object[]... rows) {
        List<Object> out = new ArrayList<>();
        for (Object[] row : rows) {
            out.addAll(Arrays.asList(row));
        }
        return out.toArray();
    }
}
