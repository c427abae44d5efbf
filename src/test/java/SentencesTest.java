import java.io.IOException;
import java.lang.reflect.Method;
import java.nio.charset.StandardCharsets;
import java.nio.file.Files;
import java.nio.file.Path;
import java.util.ArrayList;
import java.util.Comparator;
import java.util.List;
import java.util.Set;
import java.util.TreeSet;

/** Each sentence that a test says it holds stands in the document, and each promise is held in whole. */
public final class SentencesTest extends Bench {
    private static final Path DOCUMENT = Path.of("../shared/DOC.md");
    private static final int PROMISES = 31;
    private static final List<Class<? extends Bench>> TESTS = List.of(TermsTest.class, WhatThereIsTest.class,
        BuildingTest.class, SideBySideTest.class, MakersTest.class, RefusedTest.class);

    public static void main(String[] args) throws IOException {
        String document = oneLine(Files.readString(DOCUMENT, StandardCharsets.UTF_8));
        List<Says> said = said();
        for (Says says : said) {
            String part = says.promise() == 0 ? document : promise(document, says.promise());
            due("stands in the document: " + says.value(), 1, part.contains(says.value()) ? 1 : 0);
        }
        for (int n = 1; n <= PROMISES; n++) {
            due("not held of promise " + n + ":" + left(promise(document, n), n, said), 0,
                left(promise(document, n), n, said).length());
        }
        end();
    }

    private static String oneLine(String text) {
        return text.replaceAll("\\s+", " ");
    }

    private static List<Says> said() {
        List<Says> all = new ArrayList<>();
        for (Class<?> c : TESTS) {
            for (Method m : c.getDeclaredMethods()) {
                if (m.isAnnotationPresent(Says.class)) {
                    all.add(m.getAnnotation(Says.class));
                }
            }
        }
        return all;
    }

    /** What the document says in a promise, behind the call's face. */
    private static String promise(String document, int n) {
        String head = "## Promise " + n + ":";
        int from = document.indexOf("`:", document.indexOf(head)) + 2;
        int to = document.indexOf("## ", from);
        return document.substring(from, to);
    }

    /** What no test of a promise says of it. */
    private static String left(String promise, int n, List<Says> said) {
        // the longest first: a shorter one may be a part of it
        Set<String> sentences = new TreeSet<>(Comparator.comparing((String s) -> -s.length()).thenComparing(s -> s));
        for (Says says : said) {
            if (says.promise() == n) {
                sentences.add(says.value());
            }
        }
        String left = promise;
        for (String s : sentences) {
            left = left.replace(s, " ");
        }
        return left.trim();
    }
}
