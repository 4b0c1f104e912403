import java.io.IOException;
import java.lang.reflect.Constructor;
import java.lang.reflect.Field;
import java.lang.reflect.Method;
import java.lang.reflect.Modifier;
import java.nio.file.Files;
import java.nio.file.Path;
import java.util.Arrays;
import java.util.List;
import java.util.Set;
import java.util.TreeSet;
import java.util.regex.Matcher;
import java.util.regex.Pattern;

/** Holds the program against those rules of LANGUAGE.md that can be seen from its text and its members. */
final class LanguageTest {
    private static final Set<String> FACE = new TreeSet<>(List.of("feed", "send", "fetch", "block", "key", "value",
            "total", "count", "fees"));

    public static void main(String[] args) throws IOException {
        String text = Files.readString(Path.of("src/main/java/CoinNode.java"));
        String code = text.replaceAll("(?s)/\\*.*?\\*/", "").replaceAll("//.*", "");
        words(text, code);
        library(code);
        methods(text);
        members();
        Kit.end();
    }

    private static void words(String text, String code) {
        Kit.same("signs are 1 to 127", text.chars().allMatch(sign -> sign > 0 && sign < 128), true);
        for (String word : new String[] {"throw", "try", "catch", "synchronized", "assert", "package", "volatile",
            "instanceof", "equals", "hashCode", "toString", "native", "protected", "interface", "extends"}) {
            Kit.same("the word " + word, Pattern.compile("\\b" + word + "\\b").matcher(code).find(), false);
        }
        for (String sign : new String[] {"->", "::", "@", "static {", "\"", "...", "<>"}) {
            Kit.same("the sign " + sign, code.contains(sign), false);
        }
    }

    private static void library(String code) {
        Set<String> used = new TreeSet<>();
        Matcher matcher = Pattern.compile("\\b(Arrays|Math|System|Integer|Long|String|List)\\.(\\w+)").matcher(code);
        while (matcher.find()) {
            used.add(matcher.group());
        }
        Kit.same("of the library", used.toString(), "[Arrays.copyOf, Arrays.fill, Math.abs, Math.max, Math.min, "
                + "System.arraycopy]");
        matcher = Pattern.compile("import (.*);").matcher(code);
        while (matcher.find()) {
            Kit.same("imports", matcher.group(1), "java.util.Arrays");
        }
    }

    /** A method begins behind 4 or 8 spaces, and ends with a brace behind as many. */
    private static void methods(String text) {
        String[] lines = text.split("\n");
        for (int i = 0; i < lines.length; i++) {
            Matcher head = Pattern.compile("^(    |        )[a-z].*\\((.*)\\) \\{$").matcher(lines[i]);
            if (!head.matches()) {
                continue;
            }
            int end = i;
            while (!lines[end].equals(head.group(1) + "}")) {
                end++;
            }
            Kit.same("lines of " + lines[i].trim() + " " + (end - i + 1), end - i + 1 <= 62, true);
            Kit.same("parameters of " + lines[i].trim(), head.group(2).split(",").length <= 7, true);
        }
    }

    private static void members() {
        Kit.same("public and final", CoinNode.class.getModifiers(), Modifier.PUBLIC | Modifier.FINAL);
        Set<String> open = new TreeSet<>();
        for (Method method : CoinNode.class.getDeclaredMethods()) {
            if (!Modifier.isPrivate(method.getModifiers())) {
                open.add(method.getName());
                Kit.same(method.getName() + " is public", method.getModifiers(), Modifier.PUBLIC);
            } else {
                Kit.same("a private " + method.getName(), FACE.contains(method.getName()), false);
            }
        }
        Kit.same("the face", open, FACE);
        for (Constructor<?> constructor : CoinNode.class.getDeclaredConstructors()) {
            Kit.same("the constructor", constructor.getParameterCount(), 0);
        }
        Class<?>[] inside = CoinNode.class.getDeclaredClasses();
        Kit.same("classes", inside.length + 1 <= 12, true);
        fields(CoinNode.class);
        for (Class<?> one : inside) {
            Kit.same(one + " is static", Modifier.isStatic(one.getModifiers()), true);
            fields(one);
            for (Method method : one.getDeclaredMethods()) {
                Kit.same(one + " has " + method.getName(), FACE.contains(method.getName()), false);
            }
        }
    }

    private static void fields(Class<?> one) {
        long many = Arrays.stream(one.getDeclaredFields()).filter(field -> !Modifier.isStatic(field.getModifiers())).count();
        Kit.same("fields of " + one + ": " + many, many <= 20, true);
        for (Field field : one.getDeclaredFields()) {
            if (Modifier.isStatic(field.getModifiers())) {
                Kit.same("final " + field, Modifier.isFinal(field.getModifiers()), true);
            } else if (one == CoinNode.class) {
                Kit.same("private " + field, Modifier.isPrivate(field.getModifiers()), true);
            }
        }
    }
}
