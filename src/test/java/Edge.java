import java.io.IOException;
import java.nio.file.Files;
import java.nio.file.Path;
import java.util.ArrayList;
import java.util.LinkedHashSet;
import java.util.List;
import java.util.Set;

/**
 * One test for each edge that the document names: it says the promise (0 for what the document says beside them) and,
 * word for word, the sentence that it is for. Behind all edges it is looked whether every word of the document stands in
 * a sentence that was tried or was told to have no edge.
 */
final class Edge {
    private static final Set<String> QUOTED = new LinkedHashSet<>();
    private static final Set<String> FAILING = new LinkedHashSet<>();
    private static String doc;
    private static String here = "";
    private static boolean isQuiet;
    private static boolean isListed;
    private static int edges;
    private static int checks;
    private static int wrong;

    private Edge() {
    }

    /** Runs the test of one edge of a sentence; the sentence must stand in the document as it is quoted. */
    static void of(int promise, String sentence, String what, Runnable test) {
        here = "promise " + promise + ", \"" + sentence + "\": " + what;
        edges++;
        if (isListed) {
            System.out.println(here);
        }
        quote(sentence);
        Coin.forget();
        int before = checks;
        try {
            test.run();
        } catch (RuntimeException e) {
            fail("threw " + e);
        }
        if (checks == before) {
            fail("nothing was looked at");
        }
    }

    /** A sentence without an edge that a run of calls could meet, and why. */
    static void none(String sentence, String why) {
        here = "no edge, \"" + sentence + "\": " + why;
        quote(sentence);
    }

    static void due(String what, Object got, Object due) {
        checks++;
        if (!got.equals(due)) {
            fail(what + ": " + got + ", due is " + due);
        }
    }

    static void fail(String what) {
        wrong++;
        FAILING.add(here);
        if (!isQuiet) {
            System.out.println(here + ": " + what);
        }
    }

    /** From here on each edge is told, also one that holds. */
    static void list() {
        isListed = true;
    }

    /** The edges whose tests have failed so far. */
    static Set<String> failing() {
        return FAILING;
    }

    static void end() {
        lookForTheRest();
        System.out.println(edges + " edges, " + checks + " checks, " + wrong + " wrong");
        if (wrong > 0 || edges == 0) {
            System.exit(1);
        }
    }

    private static String text() {
        if (doc == null) {
            try {
                doc = plain(Files.readString(Path.of("../shared/DOC.md")));
            } catch (IOException e) {
                System.out.println("no document, so no sentence is looked up: " + e);
                doc = "";
            }
        }
        return doc;
    }

    /** The document from its first line to its last, without headings and marks; one blank between words. */
    private static String plain(String whole) {
        return whole.replaceAll("(?m)^(#|====|```).*$", "").replaceAll("\\s+", " ");
    }

    private static void quote(String sentence) {
        QUOTED.add(sentence);
        if (!text().isEmpty() && !text().contains(sentence)) {
            fail("the document does not say so");
        }
    }

    private static void lookForTheRest() {
        char[] left = text().toCharArray();
        for (String sentence : QUOTED) {
            int at = text().indexOf(sentence);
            for (int i = 0; at >= 0 && i < sentence.length(); i++) {
                left[at + i] = '\n';
            }
        }
        here = "no test";
        List<String> parts = new ArrayList<>(List.of(new String(left).split("\n+")));
        parts.removeIf(part -> !part.matches(".*[a-zA-Z0-9].*"));
        for (String part : parts) {
            fail("nobody tries \"" + part.trim() + "\"");
        }
    }
}
