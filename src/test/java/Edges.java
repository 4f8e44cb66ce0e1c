import java.lang.annotation.ElementType;
import java.lang.annotation.Retention;
import java.lang.annotation.RetentionPolicy;
import java.lang.annotation.Target;
import java.lang.reflect.Method;
import java.nio.file.Files;
import java.nio.file.Path;
import java.util.HashMap;
import java.util.HashSet;
import java.util.Map;
import java.util.Set;

/**
 * What the tests of boundary cases have in common. Each of them is one method that quotes the words
 * of the document that it is there for; a quote that does not stand there is a failure, too, so
 * that a document that changes is seen here.
 */
abstract class Edges {
    static final int NONE = -1000000, BAD = -1000001, STATE = -1000002, FULL = -1000003;
    static final int NULL = -1000011, PLACE = -1000012, KIND = -1000013, SIZE = -1000014, STORE = -1000015;
    static final int MIN = Integer.MIN_VALUE, MAX = Integer.MAX_VALUE;
    static final int FAULT = -1000100;

    /** The section of the document (its heading up to the colon), and its words there. */
    @Retention(RetentionPolicy.RUNTIME)
    @Target(ElementType.METHOD)
    @interface Says {
        String in();

        String words();
    }

    private static String current = "";
    private static int done = 0;
    private static int wrong = 0;

    /** Runs each test of a class; of each promise from the first to the last there must be one. */
    static void run(Class<?> tests, int firstPromise, int lastPromise) throws Exception {
        Map<String, String> document = sections(Files.readString(Path.of("../shared/DOC.md")));
        Set<String> quoted = new HashSet<>();
        Set<String> seen = new HashSet<>();
        for (Method test : tests.getDeclaredMethods()) {
            Says says = test.getAnnotation(Says.class);
            if (says == null) {
                continue;
            }
            current = tests.getName() + "." + test.getName() + " (" + says.in() + ": " + says.words() + ")";
            seen.add(says.in());
            check(document.getOrDefault(says.in(), "").contains(plain(says.words())), "the document has no such words");
            check(quoted.add(says.in() + ":" + says.words()), "these words have a test already");
            int before = done;
            test.setAccessible(true);
            test.invoke(null);
            check(done > before, "nothing was looked at");
        }
        current = tests.getName();
        for (int promise = firstPromise; promise <= lastPromise; promise++) {
            check(seen.contains("Promise " + promise), "no test of promise " + promise);
        }
        System.out.println(tests.getName() + ": " + quoted.size() + " sentences, " + done + " answers, "
                + wrong + " not as due");
        if (wrong != 0) {
            System.exit(1);
        }
    }

    private static Map<String, String> sections(String document) {
        Map<String, String> out = new HashMap<>();
        for (String section : document.split("\n## ")) {
            String heading = section.split("[:\n]", 2)[0];
            out.put(heading, plain(section));
        }
        return out;
    }

    private static String plain(String text) {
        return text.replaceAll("\\s+", " ").trim();
    }

    private static void check(boolean right, String what) {
        if (!right) {
            wrong++;
            System.out.println(current + ": " + what);
        }
    }

    static void due(long want, long got) {
        done++;
        if (got != want) {
            check(false, "answered " + got + ", due is " + want + ", at lines" + lines());
        }
    }

    /** Where in the test classes it was asked, the innermost line first. */
    private static String lines() {
        StringBuilder out = new StringBuilder();
        for (StackTraceElement at : new Throwable().getStackTrace()) {
            if (at.getClassName().endsWith("EdgesTest") && !at.getMethodName().equals("main")) {
                out.append(' ').append(at.getLineNumber());
            }
        }
        return out.toString();
    }

    static void same(String want, String got) {
        done++;
        check(want.equals(got), "was " + want + ", became " + got);
    }

    static AlikeSteps read(String text) {
        AlikeSteps x = new AlikeSteps();
        reread(x, text);
        return x;
    }

    static int reread(AlikeSteps x, String text) {
        for (int i = 0; i < text.length(); i++) {
            x.feed(text.charAt(i));
        }
        return x.system();
    }

    static void fill(AlikeSteps x, int row, int lane, int... items) {
        x.row(row, lane, items.length);
        for (int i = 0; i < items.length; i++) {
            x.set(row, i, items[i]);
        }
    }

    /** Whether a formula holds; it comes to ROW 0. */
    static int formula(AlikeSteps x, int rule, int state, int... codes) {
        fill(x, 0, 2, codes);
        return x.holds(rule, state, 0, codes.length);
    }

    /** What tells p from q must be just these codes. */
    static void told(AlikeSteps x, int rule, int p, int q, int... codes) {
        due(codes.length, x.tells(rule, p, q, -1));
        for (int j = 0; j < codes.length; j++) {
            due(codes[j], x.tells(rule, p, q, j));
        }
        due(NONE, x.tells(rule, p, q, codes.length));
    }

    /** The blocks of all states at last, one figure each. */
    static String blocks(AlikeSteps x, int rule) {
        StringBuilder out = new StringBuilder();
        for (int s = 0; s < x.count(1); s++) {
            out.append(x.block(rule, s));
        }
        return out.toString();
    }

    static String blocksBehind(AlikeSteps x, int rule, int n) {
        StringBuilder out = new StringBuilder();
        for (int s = 0; s < x.count(1); s++) {
            out.append(x.behind(rule, n, s));
        }
        return out.toString();
    }

    /** Kinds and arcs, as a text that could be read. */
    static String system(AlikeSteps x) {
        StringBuilder out = new StringBuilder();
        for (int s = 0; s < x.count(1); s++) {
            out.append("?pgxdw".charAt(x.kind(s))).append(';');
        }
        for (int a = 0; a < x.count(2); a++) {
            out.append("tabc".charAt(x.arc(a, 0))).append(x.arc(a, 1)).append(',').append(x.arc(a, 2)).append(';');
        }
        return out.toString();
    }

    /** All that can be asked without a change, but for status(). */
    static String picture(AlikeSteps x) {
        StringBuilder out = new StringBuilder(system(x));
        out.append(" rows ").append(x.count(0)).append(" marked ").append(x.count(3));
        out.append(" acts ").append(x.count(4)).append(" tape ").append(x.count(5));
        out.append(" fault ").append(x.fault()).append(" trace");
        for (int i = 0; i < 7; i++) {
            out.append(' ').append(x.trace(i));
        }
        return out.toString();
    }
}
