import java.io.ByteArrayOutputStream;
import java.io.IOException;
import java.lang.reflect.Method;
import java.lang.reflect.Modifier;
import java.net.URL;
import java.net.URLClassLoader;
import java.nio.file.Files;
import java.nio.file.Path;
import java.util.ArrayList;
import java.util.Arrays;
import java.util.List;
import java.util.Set;
import java.util.TreeSet;
import java.util.regex.Matcher;
import java.util.regex.Pattern;
import java.util.stream.Stream;
import javax.tools.ToolProvider;

/**
 * The lines by which README.md shows how the class is used: they are compiled as they stand there, together with the
 * program, and each call must answer what README.md says behind it. And the tests that README.md tells of are those
 * that there are.
 */
final class ReadmeTest {
    private static final Pattern LINE = Pattern.compile("(.*?)(?:\\s*// (.*))?");
    private static final Pattern GIVEN = Pattern.compile("\\w+ (\\w+) = .*");
    private static final String BEGINNING = "CoinNode node = new CoinNode();";

    /** What was found out about a README: what is wrong with it, and how many answers were looked at. */
    private static final class Found {
        final List<String> wrong = new ArrayList<>();
        int answers;
    }

    /** README's lines on their way into a class of their own. */
    private static final class Lines {
        final StringBuilder imports = new StringBuilder();
        final StringBuilder helpers = new StringBuilder();
        final StringBuilder calls = new StringBuilder();
        final List<String> wrong = new ArrayList<>();
        private String part = "";

        /** A part of README.md that shows Java: helpers if it declares any, else calls. */
        void take(List<String> lines, int first) {
            boolean declares = lines.stream().anyMatch(line -> line.startsWith("static ") || line.startsWith("import "));
            for (int i = 0; i < lines.size(); i++) {
                String line = lines.get(i);
                if (!declares) {
                    takeCall(line, first + i);
                } else if (line.startsWith("import ")) {
                    imports.append(line).append('\n');
                } else {
                    helpers.append(line).append('\n');
                }
            }
        }

        private void takeCall(String line, int number) {
            Matcher matcher = LINE.matcher(line);
            matcher.matches();
            String said = matcher.group(2);
            part += matcher.group(1).trim() + " ";
            String code = part.trim();
            if (!code.endsWith(";") && !code.endsWith("{") && !code.endsWith("}")) {
                return;
            }
            part = "";
            if (said != null) {
                calls.append(answered(code, said.split(": ", 2)[0], number));
            } else {
                calls.append(code);
                boolean isSilent = !code.matches(".*\\bnode\\b.*") || code.equals(BEGINNING)
                        || code.matches("node\\.key\\([^;]*\\);");
                if (!isSilent) {
                    wrong.add("line " + number + ": what does it answer?");
                }
            }
            calls.append('\n');
        }

        private static String answered(String code, String due, int number) {
            Matcher given = GIVEN.matcher(code);
            if (given.matches()) {
                return code + " answer(" + number + ", " + given.group(1) + ", " + due + ");";
            }
            return "answer(" + number + ", " + code.substring(0, code.length() - 1) + ", " + due + ");";
        }

        String program() {
            return imports + "public final class Shown {\n"
                    + "private static final java.util.List<String> TOLD = new java.util.ArrayList<>();\n"
                    + "private static void answer(int line, Object got, Object due) {\n"
                    + "TOLD.add(line + \"\\n\" + got + \"\\n\" + due);\n}\n"
                    + helpers + "public static java.util.List<String> told() {\n" + calls + "return TOLD;\n}\n}\n";
        }
    }

    public static void main(String[] args) throws Exception {
        String readme = Files.readString(Path.of("README.md"));
        Found found = found(readme);
        Kit.same("what README.md shows", String.join("\n", found.wrong), "");
        Kit.same("answers", found.answers > 40, true);
        eachMethodIsShown(readme);
        eachAnswerCounts(readme);
        faultsAreSeen();
        testsAreTold(readme);
        Kit.end();
    }

    private static Found found(String readme) throws Exception {
        Lines lines = new Lines();
        Matcher matcher = Pattern.compile("(?ms)^```java\\n(.*?)^```$").matcher(readme);
        while (matcher.find()) {
            int first = (int) readme.substring(0, matcher.start(1)).lines().count() + 1;
            lines.take(matcher.group(1).lines().toList(), first);
        }
        Found found = new Found();
        found.wrong.addAll(lines.wrong);
        Path place = Files.createTempDirectory("readme");
        try {
            run(lines.program(), place, found);
        } finally {
            delete(place);
        }
        return found;
    }

    /** Compiles the lines as README.md says that it is done, makes the calls, and looks at the answers. */
    private static void run(String program, Path place, Found found) throws Exception {
        Path source = place.resolve("Shown.java");
        Files.writeString(source, program);
        ByteArrayOutputStream said = new ByteArrayOutputStream();
        int code = ToolProvider.getSystemJavaCompiler().run(null, said, said, "-nowarn", "-d", place.toString(),
                "src/main/java/CoinNode.java", source.toString());
        if (code != 0) {
            found.wrong.add("it does not compile: " + said);
            return;
        }
        try (URLClassLoader loader = new URLClassLoader(new URL[] {place.toUri().toURL()},
                ClassLoader.getPlatformClassLoader())) {
            List<?> told = (List<?>) loader.loadClass("Shown").getMethod("told").invoke(null);
            for (Object one : told) {
                String[] parts = one.toString().split("\n", 3);
                found.answers++;
                if (!parts[1].equals(parts[2])) {
                    found.wrong.add("line " + parts[0] + " answers " + parts[1] + ", not " + parts[2]);
                }
            }
        }
    }

    private static void delete(Path place) throws IOException {
        try (Stream<Path> all = Files.walk(place)) {
            for (Path one : all.sorted((a, b) -> b.compareTo(a)).toList()) {
                Files.delete(one);
            }
        }
    }

    private static void eachMethodIsShown(String readme) {
        for (Method method : CoinNode.class.getDeclaredMethods()) {
            if (Modifier.isPublic(method.getModifiers())) {
                boolean isShown = Pattern.compile("(?m)^node\\." + method.getName() + "\\(").matcher(readme).find();
                Kit.same("README.md shows " + method.getName(), isShown, true);
            }
        }
    }

    /** With another answer behind a call README.md must be found wrong. */
    private static void eachAnswerCounts(String readme) throws Exception {
        String[] lines = readme.split("\n", -1);
        for (int i = 0; i < lines.length; i++) {
            Matcher matcher = Pattern.compile("(.*;\\s*// )(.*?)((?:: .*)?)").matcher(lines[i]);
            if (!matcher.matches()) {
                continue;
            }
            String due = matcher.group(2);
            String other = due.equals("true") ? "false" : due.equals("false") ? "true"
                    : due.startsWith("\"") ? due + " + \"00\"" : due + " + 1";
            String[] changed = lines.clone();
            changed[i] = matcher.group(1) + other + matcher.group(3);
            Found found = found(String.join("\n", changed));
            String wrong = String.join("\n", found.wrong);
            Kit.same("another answer is seen: " + wrong, wrong.startsWith("line " + (i + 1) + " answers "), true);
        }
    }

    private static void faultsAreSeen() throws Exception {
        Kit.same("right", faults("node.count(0);  // 1: that is so", "node.count(1);  // 0"), 0);
        Kit.same("a wrong answer", faults("node.count(0);  // 2"), 1);
        Kit.same("two of them", faults("node.count(0);  // 2", "node.count(4);  // 0", "node.fees();  // 1L"), 2);
        Kit.same("a wrong answer, given to a name", faults("long all = node.total();  // 1"), 1);
        Kit.same("a right one over two lines", faults("long all =", "    node.total();  // 0"), 0);
        Kit.same("no answer", faults("node.count(0);"), 1);
        Kit.same("no answer, given to a name", faults("int many = node.count(0);"), 1);
        Kit.same("key has none", faults("node.key(1, 2, 3, 4, 5);", "node.value();  // -1"), 0);
        Kit.same("no such call", faults("node.counts(0);  // 1"), 1);
    }

    private static int faults(String... lines) throws Exception {
        return found("```java\n" + BEGINNING + "\n" + String.join("\n", lines) + "\n```\n").wrong.size();
    }

    private static void testsAreTold(String readme) throws IOException {
        Set<String> there = new TreeSet<>();
        try (Stream<Path> files = Files.list(Path.of("src/test/java"))) {
            files.map(file -> file.getFileName().toString()).filter(name -> name.endsWith("Test.java"))
                    .forEach(name -> there.add(name.substring(0, name.length() - 5)));
        }
        Set<String> told = new TreeSet<>();
        Matcher row = Pattern.compile("(?m)^\\| (`\\w+Test`(?:, `\\w+Test`)*) \\|").matcher(readme);
        while (row.find()) {
            told.addAll(Arrays.asList(row.group(1).replace("`", "").split(", ")));
        }
        Kit.same("the tests that README.md tells of", told, there);
        Kit.same("it tells how they are run", readme.contains("```sh\n.ci/run\n```"), true);
        Kit.same(".ci/run can be run", Files.isExecutable(Path.of(".ci/run")), true);
    }
}
