import java.lang.management.ManagementFactory;
import java.util.Arrays;
import java.util.List;
import java.util.Random;

/** A run of 512 calls takes little room, and no call throws, whatever it is called with and how often. */
final class RoomTest {
    public static void main(String[] args) {
        room();
        anything();
        Kit.end();
    }

    private static long taken() {
        com.sun.management.ThreadMXBean bean = (com.sun.management.ThreadMXBean) ManagementFactory.getThreadMXBean();
        return bean.getThreadAllocatedBytes(Thread.currentThread().getId());
    }

    /** The dearest calls for the room are those that keep what they read: blocks full of transactions. */
    private static void room() {
        Kit.Node maker = new Kit.Node(false);
        List<Kit.Block> blocks = Kit.grow(maker, Kit.first(), 9, 8, 1, 81);
        int[][][] words = new int[blocks.size()][][];
        for (int i = 0; i < words.length; i++) {
            byte[] message = blocks.get(i).message();
            byte[] padded = Arrays.copyOf(message, (message.length + 19) / 20 * 20);
            words[i] = new int[padded.length / 20 + 1][5];
            for (int j = 0; j < padded.length; j++) {
                words[i][j / 20][j % 20 / 4] = words[i][j / 20][j % 20 / 4] << 8 | padded[j] & 255;
            }
            words[i][words[i].length - 1][0] = message.length;
        }
        new CoinNode();
        taken();
        long before = taken();
        CoinNode node = new CoinNode();
        int calls = 0;
        for (int turn = 0; calls < 512; turn++) {
            int[][] one = words[turn % words.length];
            for (int j = 0; j < one.length - 1; j++) {
                node.feed(one[j][0], one[j][1], one[j][2], one[j][3], one[j][4]);
            }
            node.send(turn % 4, one[one.length - 1][0]);
            calls += one.length;
        }
        long all = taken() - before;
        Kit.same("height", node.count(1), 9);
        Kit.same("bytes that a run takes: " + all, all < 1000000, true);
    }

    private static void anything() {
        Random random = new Random(17);
        int[] odd = {0, 1, -1, 2, 3, 4, 7, 20, 300, 1999, 2000, 2001, Integer.MAX_VALUE, Integer.MIN_VALUE};
        CoinNode node = new CoinNode();
        for (int i = 0; i < 400000; i++) {
            int x = odd[random.nextInt(odd.length)];
            int y = odd[random.nextInt(odd.length)];
            switch (random.nextInt(10)) {
                case 0: node.send(random.nextInt(4), random.nextInt(120)); break;
                case 1: node.send(x, y); break;
                case 2: node.fetch(x); break;
                case 3: node.block(x, y); break;
                case 4: node.key(x, y, random.nextLong(), -1, y); break;
                case 5: node.value(); break;
                case 6: node.count(x); break;
                case 7: node.total(); node.fees(); break;
                default:
                    node.feed(random.nextInt(8) << 24 | random.nextInt(3) << 16 | random.nextInt(1 << 16),
                            random.nextInt(), random.nextInt(3), x, y);
            }
        }
        Kit.same("the first block is the tip still", node.count(1), 0);
        Kit.same("known", node.count(0), 1);
        Kit.same("the pool", node.count(3), 0);
    }
}
