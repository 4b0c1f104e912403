import java.io.IOException;
import java.lang.reflect.Field;
import java.lang.reflect.Method;
import java.net.URL;
import java.net.URLClassLoader;
import java.nio.file.Files;
import java.nio.file.Path;
import java.util.ArrayList;
import java.util.List;
import java.util.Set;
import java.util.concurrent.ExecutionException;
import java.util.concurrent.ExecutorService;
import java.util.concurrent.Executors;
import java.util.concurrent.Future;
import java.util.concurrent.TimeUnit;
import java.util.concurrent.TimeoutException;
import java.util.regex.Matcher;
import java.util.regex.Pattern;
import javax.tools.ToolProvider;

/**
 * Breaks the program sentence by sentence, as src/test/mutants.txt tells, and looks whether the edge's own test fails.
 * It is no test of .ci/run: .ci/mutants runs it.
 */
final class Mutants {
    /** A sentence, or a part of one; what is replaced in the program, and by what. */
    private static final class Mutant {
        String sentence = "";
        String before = "";
        String after = "";
        int line;
    }

    public static void main(String[] args) throws Exception {
        Path tests = Path.of(args[0]);
        String program = Files.readString(Path.of("src/main/java/CoinNode.java"));
        List<Mutant> mutants = read(Files.readAllLines(Path.of("src/test/mutants.txt")));
        ExecutorService runners = Executors.newFixedThreadPool(Runtime.getRuntime().availableProcessors());
        List<Future<String>> answers = new ArrayList<>();
        for (Mutant mutant : mutants) {
            if (args.length < 2 || mutant.sentence.contains(args[1])) {
                answers.add(runners.submit(() -> answer(mutant, program, tests)));
            }
        }
        int wrong = 0;
        for (Future<String> answer : answers) {
            String said = said(answer);
            wrong += said.isEmpty() ? 0 : 1;
            System.out.print(said);
        }
        System.out.println(answers.size() + " mutants, " + wrong + " wrong");
        System.out.flush();
        Runtime.getRuntime().halt(wrong > 0 ? 1 : 0);
    }

    private static String said(Future<String> answer) throws InterruptedException, ExecutionException {
        try {
            return answer.get(300, TimeUnit.SECONDS);
        } catch (TimeoutException e) {
            return "one does not end\n";
        }
    }

    private static List<Mutant> read(List<String> lines) {
        List<Mutant> out = new ArrayList<>();
        Mutant last = new Mutant();
        for (int i = 0; i < lines.size(); i++) {
            String line = lines.get(i);
            String rest = line.length() > 2 ? line.substring(2) : "";
            if (line.startsWith("= ")) {
                last = new Mutant();
                last.line = i + 1;
                last.sentence = rest;
                out.add(last);
            } else if (line.startsWith("-")) {
                last.before += rest + "\n";
            } else if (line.startsWith("+")) {
                last.after += rest + "\n";
            }
        }
        return out;
    }

    /** Nothing, if just what should is caught; else what is wrong. */
    private static String answer(Mutant mutant, String program, Path tests) throws Exception {
        String head = "mutants.txt:" + mutant.line + " \"" + mutant.sentence + "\": ";
        String[] words = mutant.before.trim().split("\\s+");
        List<String> quoted = new ArrayList<>();
        for (String word : words) {
            quoted.add(Pattern.quote(word));
        }
        Matcher matcher = Pattern.compile(String.join("\\s+", quoted)).matcher(program);
        if (!matcher.find()) {
            return head + "the program has no such text\n";
        }
        String changed = program.substring(0, matcher.start()) + mutant.after.trim() + program.substring(matcher.end());
        if (matcher.find()) {
            return head + "the program has that text more than once\n";
        }
        Path place = Files.createTempDirectory("mutant");
        Path source = place.resolve("CoinNode.java");
        Files.writeString(source, changed);
        if (ToolProvider.getSystemJavaCompiler().run(null, null, null, "-nowarn", "-d", place.toString(), source.toString()) != 0) {
            return head + "it does not compile\n";
        }
        Set<String> failing = failing(place, tests);
        for (String one : failing) {
            if (one.contains(mutant.sentence)) {
                return "";
            }
        }
        return head + (failing.isEmpty() ? "nothing fails\n" : "only others fail: " + failing.iterator().next() + "\n");
    }

    @SuppressWarnings("unchecked")
    private static Set<String> failing(Path place, Path tests) throws IOException, ReflectiveOperationException {
        URL[] urls = {place.toUri().toURL(), tests.toUri().toURL()};
        try (URLClassLoader loader = new URLClassLoader(urls, ClassLoader.getPlatformClassLoader())) {
            Class<?> edge = loader.loadClass("Edge");
            Field quiet = edge.getDeclaredField("isQuiet");
            quiet.setAccessible(true);
            quiet.set(null, true);
            Method all = loader.loadClass("EdgesTest").getDeclaredMethod("all");
            all.setAccessible(true);
            all.invoke(null);
            Method failing = edge.getDeclaredMethod("failing");
            failing.setAccessible(true);
            return (Set<String>) failing.invoke(null);
        }
    }
}
