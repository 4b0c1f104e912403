import java.util.ArrayList;
import java.util.Arrays;
import java.util.List;
import java.util.Random;

/** Each operation, each fault, each limit of scripts; and random scripts beside the model. */
final class ScriptTest {
    private static Kit.Node node;
    private static List<Kit.Block> blocks;
    private static int used;
    private static long mark;

    public static void main(String[] args) {
        pushes();
        truth();
        parts();
        moves();
        numbers();
        limits();
        twoScripts();
        several();
        signatureCounts();
        random();
        Kit.end();
    }

    private static void fresh() {
        if (node == null || used > 38 || node.node.count(3) > 37) {
            node = new Kit.Node(true);
            blocks = Kit.grow(node, Kit.first(), 13, 8, 1, 97);
            used = 0;
        }
    }

    /** A transaction with an output that has the lock, in the pool. */
    private static Kit.Tx locked(byte[] lock) {
        fresh();
        Kit.Tx tx = new Kit.Tx().time(mark++).in(blocks.get(used / 8).txs.get(0), used % 8, 81).out(1000, lockParts(lock));
        used++;
        Kit.same("the lock comes in", node.code(tx), 0);
        return tx;
    }

    private static Object[] lockParts(byte[] lock) {
        Object[] parts = new Object[lock.length];
        for (int i = 0; i < lock.length; i++) {
            parts[i] = lock[i] & 255;
        }
        return parts;
    }

    private static boolean holds(byte[] script, byte[] lock) {
        Kit.Tx maker = locked(lock);
        Kit.Tx tx = new Kit.Tx().time(mark++).out(1);
        tx.in(maker.name(), 0, script);
        return node.code(tx) == 0;
    }

    /** Whether the codes, run as the script of an input, leave a true top. */
    private static boolean runs(Object... parts) {
        fresh();
        Kit.Tx tx = new Kit.Tx().time(mark++).out(1);
        tx.in(blocks.get(used / 8).txs.get(0).name(), used % 8, Kit.script(parts));
        boolean runs = node.code(tx) == 0;
        if (runs) {
            used++;
        }
        return runs;
    }

    private static void yes(Object... parts) {
        Kit.same("holds " + show(parts), runs(parts), true);
    }

    private static void no(Object... parts) {
        Kit.same("holds " + show(parts), runs(parts), false);
    }

    private static String show(Object... parts) {
        return Model.hex(Kit.script(parts));
    }

    private static byte[] b(int... ones) {
        return Kit.bytes(ones);
    }

    /** The script leaves just these elements. */
    private static void leaves(Object[] script, byte[]... due) {
        List<Object> all = new ArrayList<>(Arrays.asList(script));
        all.addAll(Arrays.asList(116, Kit.script(80 + due.length)[0] & 255, 136));
        if (due.length == 0) {
            all.set(all.size() - 2, 0);
        }
        for (int i = due.length - 1; i >= 0; i--) {
            all.add(due[i]);
            all.add(136);
        }
        all.add(81);
        yes(all.toArray());
    }

    private static Object[] s(Object... parts) {
        return parts;
    }

    private static void pushes() {
        no();
        no(0);
        yes(81);
        yes(79);
        for (int n = 1; n <= 16; n++) {
            leaves(s(80 + n), b(n));
        }
        leaves(s(79), b(129));
        leaves(s(0), b());
        leaves(s(76, 0), b());
        leaves(s(77, 0, 0), b());
        leaves(s(76, 2, 7, 8), b(7, 8));
        leaves(s(77, 2, 0, 7, 8), b(7, 8));
        leaves(s(81, 97), b(1));
        yes(Kit.repeated(5, 75));
        yes(Kit.repeated(5, 76));
        yes(Kit.repeated(5, 120));
        no(Kit.repeated(5, 121));
        no(81, 77, 1, 1, 5);
        no(81, 76);
        no(81, 77, 0);
        no(81, 76, 2, 5);
        no(81, 2, 5);
        no(81, 75);
        for (int code : new int[] {78, 80, 98, 101, 102, 126, 127, 128, 129, 131, 132, 133, 134, 137, 138, 141, 142,
            149, 150, 151, 152, 153, 167, 171, 176, 177, 185, 200, 255}) {
            no(81, 81, 81, code, 81);
            yes(81, 0, 99, code, 104);
        }
    }

    private static void truth() {
        no(b(0));
        no(b(128));
        no(b(0, 0, 128));
        no(Kit.repeated(0, 120));
        yes(b(128, 0));
        yes(b(1));
        yes(b(0, 129));
        yes(b(0, 1, 0));
        yes(b(0, 0, 64));
        yes(81, 105, 81);
        no(0, 105, 81);
        no(b(128), 105, 81);
        no(105, 81);
        no(81, 106);
        yes(81, 0, 99, 106, 104);
    }

    private static void parts() {
        yes(81, 99, 81, 103, 0, 104);
        no(0, 99, 81, 103, 0, 104);
        yes(0, 100, 81, 103, 0, 104);
        no(81, 100, 81, 103, 0, 104);
        leaves(s(82, 99, 83, 103, 84, 103, 85, 104), b(3), b(5));
        leaves(s(0, 99, 83, 103, 84, 103, 85, 103, 86, 104), b(4), b(6));
        leaves(s(0, 99, 99, 83, 103, 84, 104, 103, 85, 104), b(5));
        leaves(s(0, 99, 100, 83, 103, 84, 103, 84, 104, 104, 86), b(6));
        leaves(s(81, 99, 0, 99, 83, 103, 84, 104, 103, 85, 104), b(4));
        leaves(s(b(128), 99, 83, 103, 84, 104), b(4));
        no(81, 99, 81);
        no(81, 99, 81, 103);
        no(81, 81, 99, 104, 104);
        no(81, 104);
        no(81, 103);
        no(81, 103, 104);
        no(99, 81, 104);
        no(100, 81, 104);
        no(81, 0, 99, 99, 104);
        yes(81, 0, 99, 99, 104, 104);
        // what is not done: pushes are passed over with their bytes, and faulty pushes are faults
        yes(81, 0, 99, 2, 104, 104, 104);
        yes(81, 0, 99, 76, 2, 104, 104, 104);
        yes(81, 0, 99, 77, 2, 0, 104, 104, 104);
        no(81, 0, 99, 2, 104);
        no(Kit.script(81, 0, 99), Kit.repeated(1, 121), 104);
        yes(81, 0, 99, Kit.repeated(1, 120), 104);
        no(81, 0, 99, Kit.repeated(1, 121), 104);
        no(81, 0, 99, 77, 121, 0, 104);
        no(81, 0, 99, 76);
        // deep
        Object[] deep = new Object[1 + 49 + 49];
        deep[0] = 81;
        Arrays.fill(deep, 1, 50, 118);
        Arrays.fill(deep, 50, 99, 99);
        Object[] closed = new Object[2 + 50 + 50];
        closed[0] = 81;
        closed[1] = 0;
        Arrays.fill(closed, 2, 52, 99);
        Arrays.fill(closed, 52, 102, 104);
        yes(closed);
        no(deep);
    }

    private static void moves() {
        leaves(s(81, 82, 107, 83, 108), b(1), b(3), b(2));
        leaves(s(81, 82, 107, 107, 108, 108), b(1), b(2));
        no(81, 108);
        no(107, 81);
        leaves(s(81, 82, 83, 109), b(1));
        leaves(s(81, 82, 110), b(1), b(2), b(1), b(2));
        leaves(s(81, 82, 83, 111), b(1), b(2), b(3), b(1), b(2), b(3));
        leaves(s(81, 82, 83, 84, 112), b(1), b(2), b(3), b(4), b(1), b(2));
        leaves(s(87, 81, 82, 83, 84, 85, 86, 113), b(7), b(3), b(4), b(5), b(6), b(1), b(2));
        leaves(s(87, 81, 82, 83, 84, 114), b(7), b(3), b(4), b(1), b(2));
        leaves(s(82, 115), b(2), b(2));
        leaves(s(0, 115), b());
        leaves(s(b(128), 115), b(128));
        leaves(s(116), b());
        leaves(s(85, 85, 116), b(5), b(5), b(2));
        leaves(s(81, 82, 117), b(1));
        leaves(s(81, 82, 118), b(1), b(2), b(2));
        leaves(s(81, 82, 119), b(2));
        leaves(s(81, 82, 120), b(1), b(2), b(1));
        leaves(s(81, 82, 83, 0, 121), b(1), b(2), b(3), b(3));
        leaves(s(81, 82, 83, 82, 121), b(1), b(2), b(3), b(1));
        leaves(s(81, 82, 83, 0, 122), b(1), b(2), b(3));
        leaves(s(81, 82, 83, 82, 122), b(2), b(3), b(1));
        leaves(s(81, 82, 83, 81, 122), b(1), b(3), b(2));
        leaves(s(81, 82, 83, b(2, 0, 0, 0), 122), b(2), b(3), b(1));
        no(81, 82, 83, b(2, 0, 0, 0, 0), 122);
        no(81, 82, 83, 83, 122);
        no(81, 82, 83, 83, 121);
        no(81, 82, 79, 121);
        no(81, 82, 79, 122);
        no(81, 121);
        no(0, 121);
        no(122);
        leaves(s(81, 82, 83, 123), b(2), b(3), b(1));
        leaves(s(81, 82, 124), b(2), b(1));
        leaves(s(81, 82, 125), b(2), b(1), b(2));
        leaves(s(0, 130), b(), b());
        leaves(s(b(9, 9, 9), 130), b(9, 9, 9), b(3));
        yes(Kit.repeated(1, 120), 130, b(120), 136);
        leaves(s(b(1, 2), b(1, 2), 135), b(1));
        leaves(s(b(1, 2), b(1, 3), 135), b());
        leaves(s(b(1, 2), b(1, 2, 0), 135), b());
        leaves(s(0, b(128), 135), b());
        leaves(s(b(1, 2), b(1, 2), 136));
        no(81, b(1, 2), b(1, 3), 136);
        int[][] needs = {{109, 2}, {110, 2}, {111, 3}, {112, 4}, {113, 6}, {114, 4}, {115, 1}, {117, 1}, {118, 1},
            {119, 2}, {120, 2}, {121, 2}, {122, 2}, {123, 3}, {124, 2}, {125, 2}, {130, 1}, {135, 2}, {136, 2},
            {139, 1}, {140, 1}, {143, 1}, {144, 1}, {145, 1}, {146, 1}, {147, 2}, {148, 2}, {154, 2}, {155, 2},
            {156, 2}, {157, 2}, {158, 2}, {159, 2}, {160, 2}, {161, 2}, {162, 2}, {163, 2}, {164, 2}, {165, 3},
            {166, 1}, {168, 1}, {169, 1}, {170, 1}, {172, 2}, {173, 2}, {174, 3}, {175, 3}, {105, 1}, {107, 1}};
        for (int[] need : needs) {
            List<Object> parts = new ArrayList<>();
            Object one = need[0] > 172 || need[0] == 121 || need[0] == 122 ? 0 : 81;
            for (int i = 1; i < need[1]; i++) {
                parts.add(one);
            }
            parts.add(need[0]);
            parts.add(81);
            no(parts.toArray());
            parts.add(0, one);
            boolean fails = need[0] == 173;
            if (fails) {
                no(parts.toArray());
            } else {
                yes(parts.toArray());
            }
        }
    }

    private static void numbers() {
        leaves(s(b(255, 255, 255, 127), 139), b(0, 0, 0, 128, 0));
        leaves(s(b(255, 255, 255, 255), 140), b(0, 0, 0, 128, 128));
        no(b(255, 255, 255, 127), 139, 139);
        leaves(s(b(255, 255, 255, 127), 118, 147), b(254, 255, 255, 255, 0));
        leaves(s(b(255, 255, 255, 255), 118, 147), b(254, 255, 255, 255, 128));
        leaves(s(79, 139), b());
        leaves(s(0, 140), b(129));
        leaves(s(b(127), 139), b(128, 0));
        leaves(s(b(255, 0), 139), b(0, 1));
        leaves(s(b(255), 140), b(128, 128));
        leaves(s(b(5, 0, 0, 128), 143), b(5));
        leaves(s(b(128), 143), b());
        leaves(s(b(5, 0, 0), 143), b(133));
        leaves(s(b(133), 144), b(5));
        leaves(s(b(5), 144), b(5));
        leaves(s(b(0, 128), 145), b(1));
        leaves(s(81, 145), b());
        leaves(s(0, 146), b());
        leaves(s(b(0, 1), 146), b(1));
        no(81, b(0, 0, 0, 0, 0), 145);
        leaves(s(85, 83, 148), b(2));
        leaves(s(83, 85, 148), b(130));
        int[][] pairs = {{0, 0}, {0, 1}, {1, 0}, {1, 1}, {2, 1}, {1, 2}, {-1, 1}, {1, -1}, {-1, -1}, {0, -1}, {-5, 4}};
        for (int[] pair : pairs) {
            int x = pair[0];
            int y = pair[1];
            byte[] a = Scripts.bytes(java.math.BigInteger.valueOf(x));
            byte[] c = Scripts.bytes(java.math.BigInteger.valueOf(y));
            leaves(s(a, c, 154), x != 0 && y != 0 ? b(1) : b());
            leaves(s(a, c, 155), x != 0 || y != 0 ? b(1) : b());
            leaves(s(a, c, 156), x == y ? b(1) : b());
            leaves(s(a, c, 158), x != y ? b(1) : b());
            leaves(s(a, c, 159), x < y ? b(1) : b());
            leaves(s(a, c, 160), x > y ? b(1) : b());
            leaves(s(a, c, 161), x <= y ? b(1) : b());
            leaves(s(a, c, 162), x >= y ? b(1) : b());
            leaves(s(a, c, 163), x < y ? a : c);
            leaves(s(a, c, 164), x > y ? a : c);
            Kit.same("157", runs(81, a, c, 157), x == y);
        }
        leaves(s(b(1, 0, 0, 0), 81, 156), b(1));
        leaves(s(b(128), 0, 156), b(1));
        leaves(s(b(5, 0), b(7, 0), 163), b(5));
        for (int x = 0; x < 5; x++) {
            leaves(s(x == 0 ? 0 : 80 + x, 82, 84, 165), x >= 2 && x < 4 ? b(1) : b());
        }
    }

    private static void limits() {
        // 100 operations are in order, 101 are not
        Object[] most = new Object[101];
        Arrays.fill(most, 97);
        most[0] = 81;
        yes(most);
        Object[] over = new Object[102];
        Arrays.fill(over, 97);
        over[0] = 81;
        no(over);
        // so it is with those that are not done, and codes up to 96 do not count
        Object[] undone = new Object[102];
        Arrays.fill(undone, 200);
        undone[0] = 81;
        undone[1] = 0;
        undone[2] = 99;
        undone[101] = 104;
        yes(undone);
        Object[] undoneOver = Arrays.copyOf(undone, 103);
        undoneOver[101] = 97;
        undoneOver[102] = 104;
        no(undoneOver);
        Object[] free = new Object[160];
        Arrays.fill(free, 79);
        for (int i = 1; i < 160; i += 2) {
            free[i] = 117;
        }
        no(Arrays.copyOf(free, 158));
        List<Object> pushed = new ArrayList<>();
        for (int i = 0; i < 60; i++) {
            pushed.add(81);
        }
        yes(pushed.toArray());
        pushed.add(81);
        no(pushed.toArray());
        pushed.remove(60);
        pushed.add(118);
        no(pushed.toArray());
        pushed.set(60, 107);
        yes(pushed.toArray());
        pushed.add(81);
        no(pushed.toArray());
        pushed.set(61, 118);
        no(pushed.toArray());
        List<Object> three = new ArrayList<>(java.util.Collections.nCopies(57, (Object) 81));
        three.add(111);
        yes(three.toArray());
        three.add(0, 81);
        no(three.toArray());
        // each key of 174 that is done is one more
        for (int filler = 95; filler <= 98; filler++) {
            List<Object> keys = new ArrayList<>(java.util.Collections.nCopies(filler, (Object) 97));
            keys.addAll(Arrays.asList(0, 0, 0, 0, 0, 0, 83, 174));
            keys.set(keys.size() - 1, 174);
            // x m=0 k k k n=3: four operations
            List<Object> script = new ArrayList<>(java.util.Collections.nCopies(filler, (Object) 97));
            script.addAll(Arrays.asList(0, 0, 81, 81, 81, 83, 174));
            Kit.same("174 behind " + filler, runs(script.toArray()), filler <= 96);
            script.remove(script.size() - 1);
            script.add(175);
            script.add(81);
            Kit.same("175 behind " + filler, runs(script.toArray()), filler <= 96);
        }
        List<Object> skipped = new ArrayList<>(java.util.Collections.nCopies(97, (Object) 97));
        skipped.addAll(Arrays.asList(81, 0, 99, 174, 104));
        yes(skipped.toArray());
    }

    private static void twoScripts() {
        Kit.same("stack stays", holds(Kit.script(85, 86), Kit.script(86, 136, 85, 135)), true);
        Kit.same("side stack does not", holds(Kit.script(81, 81, 107), Kit.script(108)), false);
        Kit.same("a side stack left over", holds(Kit.script(81, 81, 107), Kit.script(97)), true);
        Kit.same("room is free again", holds(Kit.script(81, 81, 107), Kit.repeated(81, 59)), true);
        Kit.same("but not more", holds(Kit.script(81, 81, 107), Kit.repeated(81, 60)), false);
        Kit.same("parts end with the script", holds(Kit.script(81, 81, 99), Kit.script(104)), false);
        Kit.same("a fault in the first", holds(Kit.script(81, 108), Kit.script(81)), false);
        Kit.same("a false first is no fault", holds(Kit.script(0), Kit.script(81)), true);
        Kit.same("empty ones", holds(Kit.script(), Kit.script()), false);
        Kit.same("an empty first", holds(Kit.script(), Kit.script(81)), true);
        Kit.same("an empty second", holds(Kit.script(81), Kit.script()), true);
        Kit.same("operations count for each", holds(Kit.joined(Kit.bytes(81), Kit.repeated(97, 100)),
                Kit.repeated(97, 100)), true);
        Kit.same("more in the second", holds(Kit.script(81), Kit.repeated(97, 101)), false);
        Kit.same("200 bytes", holds(Kit.repeated(0, 0), Kit.joined(Kit.script(Kit.repeated(1, 120)),
                Kit.bytes(117), Kit.repeated(81, 60), Kit.repeated(109, 17))), true);
    }

    private static void several() {
        byte[] none = b();
        yes(0, 0, 0, 174);
        no(0, 0, 0, 174, 145);
        yes(81, 0, 0, 0, 175);
        yes(0, 0, 81, 81, 174);
        yes(85, 0, 81, 82, 83, 84, 85, 86, 87, 88, 88, 174);
        no(85, 0, 81, 82, 83, 84, 85, 86, 87, 88, 89, 89, 174);
        no(0, 0, 79, 174);
        no(0, 79, 0, 174);
        no(0, 81, 0, 174);
        no(0, 81, 82, 81, 82, 174);
        yes(0, 81, 81, 82, 81, 174, 145);
        no(81, 0, 81, 81, 82, 81, 175);
        no(0, 0, 174);
        no(0, b(0, 0, 0, 0, 0), 174);
        no(0, b(0, 0, 0, 0, 0), 0, 174);
        no(0, 0, b(0, 0, 0, 0, 0), 174);
        no(0, 0, b(8, 0, 0, 0, 0), 174);
        yes(0, b(0, 0, 0, 0), b(0, 0, 0, 128), 174);
        yes(81, 0, none, none, 174, 105);
        // signatures that fit, in their order
        java.math.BigInteger[] secrets = new java.math.BigInteger[4];
        byte[][] keys = new byte[4][];
        for (int i = 0; i < 4; i++) {
            secrets[i] = java.math.BigInteger.valueOf(1000 + i);
            keys[i] = Crypto.key(secrets[i], true);
        }
        byte[] lock = Kit.script(82, keys[0], keys[1], keys[2], 83, 174);
        byte[] must = Kit.script(82, keys[0], keys[1], keys[2], 83, 175, 81);
        int[][] tries = {{0, 1, 1}, {0, 2, 1}, {1, 2, 1}, {0, 3, 0}, {2, 3, 0}, {3, 2, 0}, {1, 0, 0}, {2, 0, 0},
            {2, 2, 0}, {0, 0, 0}};
        for (int[] one : tries) {
            for (byte[] each : new byte[][] {lock, must}) {
                Kit.Tx maker = locked(each);
                Kit.Tx tx = new Kit.Tx().time(mark++).out(1);
                tx.in(maker.name(), 0, new byte[0]);
                byte[] first = tx.sign(0, each, secrets[one[0]], 1);
                byte[] second = tx.sign(0, each, secrets[one[1]], 1);
                tx.ins.get(0).script = Kit.script(0, first, second);
                Kit.same("two of three, " + one[0] + " and " + one[1], node.code(tx), one[2] == 1 ? 0 : 10);
            }
        }
        Kit.Tx maker = locked(lock);
        Kit.Tx tx = new Kit.Tx().time(mark++).out(1).in(maker.name(), 0, new byte[0]);
        byte[] signature = tx.sign(0, lock, secrets[2], 1);
        tx.ins.get(0).script = Kit.script(signature, signature);
        Kit.same("without the x", node.code(tx), 10);
    }

    private static void signatureCounts() {
        // 8 signatures may be asked for by a transaction that is sent, whether they fit or not
        for (int asked = 6; asked <= 10; asked++) {
            List<Object> parts = new ArrayList<>();
            for (int i = 0; i < asked; i++) {
                parts.addAll(Arrays.asList(0, 0, 172, 117));
            }
            parts.add(81);
            Kit.same("asked " + asked, runs(parts.toArray()), asked <= 8);
            parts.clear();
            // one signature that fits none of three keys asks three times
            for (int i = 0; i < asked - 3; i++) {
                parts.addAll(Arrays.asList(81, 0, 172, 117));
            }
            parts.addAll(Arrays.asList(0, 81, 81, 81, 81, 81, 83, 174, 117, 81));
            Kit.same("asked by 174 too: " + asked, runs(parts.toArray()), asked <= 8);
            parts.clear();
            // m = n: the first pair that does not fit ends it
            for (int i = 0; i < asked - 1; i++) {
                parts.addAll(Arrays.asList(81, 0, 172, 117));
            }
            parts.addAll(Arrays.asList(0, 81, 82, 83, 83, 81, 82, 83, 83, 174, 117, 81));
            Kit.same("and not more than it needs: " + asked, runs(parts.toArray()), asked <= 8);
        }
        // the signatures of all inputs count together
        for (int second = 3; second <= 5; second++) {
            fresh();
            Kit.Tx tx = new Kit.Tx().time(mark++).out(1);
            for (int i = 0; i < 2; i++) {
                List<Object> parts = new ArrayList<>();
                for (int j = 0; j < (i == 0 ? 4 : second); j++) {
                    parts.addAll(Arrays.asList(0, 0, 172, 117));
                }
                parts.add(81);
                tx.in(blocks.get((used + i) / 8).txs.get(0).name(), (used + i) % 8, Kit.script(parts.toArray()));
            }
            used += 2;
            Kit.same("4 and " + second, node.code(tx), second <= 4 ? 0 : 10);
        }
    }

    private static void random() {
        Random random = new Random(3);
        int[] liked = {79, 0, 81, 82, 83, 84, 85, 96, 99, 100, 103, 104, 104, 107, 108, 109, 110, 111, 112, 113, 114, 115,
            116, 117, 118, 119, 120, 121, 122, 123, 124, 125, 130, 135, 139, 140, 143, 144, 145, 146, 147, 148, 154,
            155, 156, 158, 159, 160, 161, 162, 163, 164, 165, 166, 168, 169, 170, 172, 174};
        for (int turn = 0; turn < 6000; turn++) {
            List<Object> parts = new ArrayList<>();
            int size = 1 + random.nextInt(turn % 3 == 0 ? 60 : 14);
            for (int i = 0; i < size; i++) {
                int kind = random.nextInt(10);
                if (kind < 3) {
                    byte[] element = new byte[random.nextInt(kind == 0 ? 6 : 3)];
                    random.nextBytes(element);
                    if (random.nextBoolean() && element.length > 0) {
                        element[element.length - 1] &= (byte) 131;
                    }
                    parts.add(element);
                } else if (kind == 3) {
                    parts.add(random.nextInt(256));
                } else {
                    parts.add(liked[random.nextInt(liked.length)]);
                }
            }
            byte[] script = Kit.script(parts.toArray());
            if (script.length <= 200) {
                byte[] rest = endOf(script);
                runs(lockParts(rest.length > 0 ? rest : script));
            }
        }
    }

    /** The script with behind it a look at all that the model says it leaves; nothing if it stops with a fault. */
    private static byte[] endOf(byte[] script) {
        List<byte[]> stack = Scripts.leaves(script);
        if (stack == null) {
            return new byte[0];
        }
        List<Object> parts = new ArrayList<>(Arrays.asList(lockParts(script)));
        parts.addAll(Arrays.asList(116, Scripts.bytes(java.math.BigInteger.valueOf(stack.size())), 136));
        for (int i = stack.size() - 1; i >= 0; i--) {
            parts.add(stack.get(i));
            parts.add(136);
        }
        parts.add(81);
        byte[] whole = Kit.script(parts.toArray());
        return whole.length > 200 ? new byte[0] : whole;
    }
}
