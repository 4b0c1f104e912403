import java.io.IOException;
import java.lang.reflect.Constructor;
import java.lang.reflect.Method;
import java.lang.reflect.Modifier;
import java.nio.file.Files;
import java.nio.file.Path;
import java.util.List;
import java.util.Set;
import java.util.TreeSet;

/** What the document says before and behind its terms and promises: what it is, the public face, what is not promised. */
final class WholeEdges {
    private static final String WHAT_IT_IS = "A node of a chain of blocks with coins: it reads transactions and blocks "
            + "that peers send, checks them by all rules, keeps the chain of the most work and the coins that are unspent "
            + "in it, goes over to another branch and back, keeps a pool of transactions that wait, and answers its peers.";
    private static final String[] METHODS = {
        "boolean feed(int a, int b, int c, int d, int e)",
        "boolean send(int peer, int n)",
        "long fetch(int peer)",
        "long block(int height, int k)",
        "void key(long a, long b, long c, long d, int index)",
        "long value()",
        "long total()",
        "int count(int what)",
        "long fees()"};

    private WholeEdges() {
    }

    static void all() {
        Edge.of(0, WHAT_IT_IS, "over to another branch and back", WholeEdges::overAndBack);
        Edge.of(0, WHAT_IT_IS, "what is sent and faulty leaves all as it is", WholeEdges::faultyOnes);
        Edge.of(0, "public final class CoinNode {", "it is so, and nothing else in it is open", WholeEdges::nothingElse);
        Edge.of(0, "public CoinNode();", "there is just that one", () -> constructor("public CoinNode()"));
        Edge.of(1, "`CoinNode()`:", "there is just that one", () -> constructor("public CoinNode()"));
        for (int i = 0; i < METHODS.length; i++) {
            String method = METHODS[i];
            Edge.of(0, "public " + method + ";", "it stands so in the program", () -> method(method));
            Edge.of(2 + i, "`" + method + "`:", "it stands so in the program", () -> method(method));
        }
        Edge.none("How the state is held inside the object is free, as are the speed of each call, the text of toString and "
                + "the behaviour of equals and hashCode.", "it is free");
        Edge.none("Use of one object from several threads at once is not promised to be safe.", "it is not promised");
        Edge.none("Nothing is promised beyond the answers and state changes described above, and nothing about an object "
                + "after its 512th call.", "it is not promised");
    }

    private static void state(String what, Run run, int known, int coins, long total, int waiting, long fees) {
        Edge.due(what + ": known", run.count(0), known);
        Edge.due(what + ": coins", run.count(2), coins);
        Edge.due(what + ": total", run.total(), total);
        Edge.due(what + ": waiting", run.count(3), waiting);
        Edge.due(what + ": fees", run.fees(), fees);
    }

    private static void heads(String what, Run run, Kit.Block below, Kit.Block... due) {
        StringBuilder all = new StringBuilder(String.format("05%02x", due.length));
        for (Kit.Block block : due) {
            all.append(Model.hex(block.head()));
        }
        Edge.due(what + ": heads", run.ask(0, Kit.bytes(3, 1), below.name()), List.of(all.toString()));
    }

    private static List<String> haveBlock(Kit.Block block) {
        return List.of("060102" + Model.hex(block.name()));
    }

    private static void overAndBack() {
        Run run = Run.ripe(3);
        long all = 3 * Run.RICH;
        Kit.Block fork = run.tip();
        Kit.Tx one = run.spend(1, 0).out(Run.RICH - 5);
        Kit.Tx child = new Kit.Tx().in(one, 0, 81).out(Run.RICH - 12);
        Kit.Tx other = run.spend(1, 0).out(Run.RICH - 1);
        Kit.Tx third = run.spend(1, 1).out(Run.RICH - 100);
        run.answers(0);
        run.answers(1);
        Edge.due("one", run.code(one), 0);
        Edge.due("its child", run.code(child), 0);
        Edge.due("one against it", run.code(other), 13);
        Edge.due("told", run.answers(1), List.of("060101" + Model.hex(one.name()), "060101" + Model.hex(child.name())));
        state("two wait", run, 9, 10, all + 7, 2, 12);

        Kit.Block left = Run.behind(fork, one, third);
        Edge.due("a block", run.code(left), 0);
        Edge.due("told", run.answers(1), haveBlock(left));
        state("one is in a block, its child is not", run, 10, 11, all - 97, 1, 7);
        Edge.due("its coin", run.value(one, 0), Run.RICH - 5);

        Kit.Block right = Run.behind(fork, other);
        Edge.due("a block beside it", run.code(right), 0);
        Edge.due("nobody is told", run.answers(1), List.of());
        state("of like work the first", run, 11, 11, all - 97, 1, 7);
        Kit.Block rightAbove = Run.behind(right);
        Edge.due("a block behind that", run.code(rightAbove), 0);
        Edge.due("told", run.answers(1), haveBlock(rightAbove));
        run.tip("over", rightAbove);
        heads("over", run, fork, right, rightAbove);
        state("the third waits again, one and its child can't", run, 12, 12, all + 8, 1, 100);
        Edge.due("its coin is gone", run.value(one, 0), -1L);
        Edge.due("the coin of the other", run.value(other, 0), Run.RICH - 1);
        Edge.due("the third one's is unspent again", run.value(run.root(1), 1), Run.RICH);

        Kit.Block leftAbove = Run.behind(left, child);
        Edge.due("a block on the branch that was left", run.code(leftAbove), 0);
        run.tip("of like work the first", rightAbove);
        Kit.Block leftTop = Run.behind(leftAbove);
        Edge.due("and one behind it", run.code(leftTop), 0);
        run.tip("back", leftTop);
        heads("back", run, fork, left, leftAbove, leftTop);
        state("back", run, 14, 13, all - 102, 0, 0);
        Edge.due("the coin of the child", run.value(child, 0), Run.RICH - 12);
        Edge.due("that of the other is gone", run.value(other, 0), -1L);
        Edge.due("the third one's is spent", run.value(run.root(1), 1), -1L);
        Edge.due("bad", run.count(5), 0);
    }

    private static void faultyOnes() {
        Run run = Run.ripe(2);
        Kit.Tx good = run.spend(1, 0).out(Run.RICH - 3);
        run.put(good);
        state("before", run, 9, 9, 2 * Run.RICH + 7, 1, 3);
        Edge.due("a transaction", run.code(run.spend(1, 1).out(Run.RICH + 1)), 9);
        Edge.due("a script", run.code(new Kit.Tx().in(run.root(1), 1, 106).out(1)), 10);
        Kit.Block early = run.next();
        early.time = run.chain.get(3).time;
        Edge.due("a block", run.code(early.mine()), 24);
        run.answers(1);
        Edge.due("no message", run.ask(1, Kit.bytes(9)), List.of("0801" + "00".repeat(32)));
        state("as before", run, 9, 9, 2 * Run.RICH + 7, 1, 3);
        Edge.due("a bad block", run.code(run.next(run.spend(1, 1).out(Run.RICH + 1))), 33);
        state("it is known, all else is as before", run, 10, 9, 2 * Run.RICH + 7, 1, 3);
        Edge.due("one is bad", run.count(5), 1);
        run.tip("as before", run.tip());
    }

    private static String program() {
        try {
            return Files.readString(Path.of("src/main/java/CoinNode.java"));
        } catch (IOException e) {
            throw new IllegalStateException(e);
        }
    }

    private static void nothingElse() {
        Edge.due("public and final", CoinNode.class.getModifiers(), Modifier.PUBLIC | Modifier.FINAL);
        Edge.due("of no package", CoinNode.class.getPackageName(), "");
        Edge.due("of no other class", CoinNode.class.getSuperclass().getName(), "java.lang.Object");
        Edge.due("of no interface", CoinNode.class.getInterfaces().length, 0);
        Edge.due("no open field", CoinNode.class.getFields().length, 0);
        Edge.due("no open class", CoinNode.class.getClasses().length, 0);
        Set<String> open = new TreeSet<>();
        for (Method method : CoinNode.class.getDeclaredMethods()) {
            if (!Modifier.isPrivate(method.getModifiers())) {
                open.add(method.toString().replace("CoinNode.", "").replace(",", ", "));
            }
        }
        Set<String> due = new TreeSet<>();
        for (String method : METHODS) {
            due.add("public " + method.replaceAll("(int|long) \\w+([,)])", "$1$2"));
        }
        Edge.due("open methods", open, due);
    }

    private static void constructor(String head) {
        Constructor<?>[] all = CoinNode.class.getDeclaredConstructors();
        Edge.due("how many", all.length, 1);
        Edge.due("it is", all[0].toString(), head);
    }

    private static void method(String head) {
        Edge.due(head, program().contains("\n    public " + head + " {\n"), true);
    }
}
