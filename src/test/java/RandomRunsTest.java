import java.util.ArrayList;
import java.util.List;
import java.util.Random;

/** Runs of drawn calls, the same each time, on the program and on the model side by side. */
public final class RandomRunsTest {
    private static final int RUNS = 1000;
    private static final int CALLS = 512;

    private final Random random;
    private final int run;
    private final AlikeSteps x = new AlikeSteps();
    private final Model m = new Model();
    private final List<String> calls = new ArrayList<>();
    private int wrong = 0;

    private RandomRunsTest(int run) {
        this.run = run;
        random = new Random(run);
    }

    public static void main(String[] args) {
        int wrong = 0;
        long calls = 0;
        for (int run = 0; run < RUNS && wrong == 0; run++) {
            RandomRunsTest test = new RandomRunsTest(run);
            test.go();
            calls += test.calls.size();
            wrong += test.wrong;
        }
        System.out.println("random runs: " + calls + " calls, " + wrong + " not as due");
        if (wrong != 0) {
            System.exit(1);
        }
    }

    private void same(String call, long got, long want) {
        calls.add(call + " = " + want);
        if (got != want) {
            wrong++;
            if (wrong == 1) {
                System.out.println("run " + run + ":");
                for (String c : calls) {
                    System.out.println("  " + c);
                }
                System.out.println("  but answered " + got);
            }
        }
    }

    private void go() {
        if (random.nextInt(10) > 0) {
            text(system());
        }
        while (calls.size() < CALLS && wrong == 0) {
            call();
        }
    }

    private int d(int n) {
        return random.nextInt(n);
    }

    /** Mostly a number from 0 to n - 1, now and then one beside these, or far off. */
    private int near(int n) {
        int draw = d(40);
        if (draw == 0) {
            return -1;
        }
        if (draw == 1) {
            return n;
        }
        if (draw == 2) {
            int[] far = {Integer.MIN_VALUE, Integer.MAX_VALUE, -1000000, 1 << 20, 31, 32, 64, 255, 256};
            return far[d(far.length)];
        }
        return n <= 0 ? 0 : d(n);
    }

    private int state() {
        return near(m.count(1));
    }

    private int arc() {
        return near(m.count(2));
    }

    private String system() {
        StringBuilder text = new StringBuilder();
        int states = 1 + d(10);
        String sorts = new String[] {"pgxdw", "pppg", "p", "ppppgd", "pd", "ppw", "pxg"}[d(7)];
        for (int i = 0; i < states; i++) {
            text.append(sorts.charAt(d(sorts.length()))).append(';');
        }
        String letters = new String[] {"tabc", "a", "ta", "tttab", "ab"}[d(5)];
        int arcs = d(21);
        boolean chain = d(3) == 0;
        for (int i = 0; i < arcs && text.length() < 134; i++) {
            int from = chain && i < states ? i : d(states);
            int to = chain && i + 1 < states ? i + 1 : d(states);
            text.append(letters.charAt(d(letters.length()))).append(from).append(',').append(to).append(';');
        }
        return text.toString();
    }

    private String spoilt(String text) {
        StringBuilder out = new StringBuilder(text);
        int times = 1 + d(3);
        for (int i = 0; i < times; i++) {
            int at = d(out.length() + 1);
            char c = "pgxdwtabc0123456789,; qA\u00e9".charAt(d(24));
            switch (d(4)) {
                case 0: out.insert(at, c); break;
                case 1: out.setLength(at); break;
                case 2: if (at < out.length()) { out.setCharAt(at, c); } break;
                default: if (at < out.length()) { out.deleteCharAt(at); } break;
            }
        }
        return out.toString();
    }

    private void text(String text) {
        for (int i = 0; i < text.length(); i++) {
            feed(text.charAt(i));
        }
        same("system()", x.system(), m.system());
    }

    private void feed(int letter) {
        same("feed(" + letter + ")", x.feed(letter), m.feed(letter));
    }

    private void set(int row, int i, int v) {
        same("set(" + row + ", " + i + ", " + v + ")", x.set(row, i, v), m.set(row, i, v));
    }

    private void row(int row, int lane, int n) {
        same("row(" + row + ", " + lane + ", " + n + ")", x.row(row, lane, n), m.row(row, lane, n));
    }

    private void holds(int rule, int state, int row, int n) {
        same("holds(" + rule + ", " + state + ", " + row + ", " + n + ")",
                x.holds(rule, state, row, n), m.holds(rule, state, row, n));
    }

    private void fits(int rule, int arc, int row, int what) {
        same("fits(" + rule + ", " + arc + ", " + row + ", " + what + ")",
                x.fits(rule, arc, row, what), m.fits(rule, arc, row, what));
    }

    private void call() {
        switch (d(5)) {
            case 0: callRows(); break;
            case 1: callSystem(); break;
            case 2: callAlike(); break;
            case 3: callTold(); break;
            default: callAsked(); break;
        }
    }

    private void callRows() {
        int a = near(8), b = near(8), i = near(6), j = near(6), n = near(8), v = random.nextInt() >> d(32);
        switch (d(8)) {
            case 0: case 1: row(a, near(3), d(3) == 0 ? near(41) : near(12)); break;
            case 2: case 3: set(a, near(12), d(2) == 0 ? v : d(6)); break;
            case 4: case 5: same("copy(" + a + ", " + i + ", " + b + ", " + j + ", " + n + ")",
                    x.copy(a, i, b, j, n), m.copy(a, i, b, j, n)); break;
            case 6: same("drop(" + a + ")", x.drop(a), m.drop(a)); break;
            default: same("status()", x.status(), m.status()); break;
        }
    }

    private void callSystem() {
        int letter = near(4), from = state(), to = state(), arc = arc(), kind = near(6), what = near(3);
        switch (d(24)) {
            case 0: text(system()); break;
            case 1: text(spoilt(system())); same("fault()", x.fault(), m.fault()); break;
            case 2: feed(near(256)); break;
            case 3: case 4: case 5: case 6: case 7: same("lay(" + letter + ", " + from + ", " + to + ")",
                    x.lay(letter, from, to), m.lay(letter, from, to)); break;
            case 8: case 9: case 10: same("cut(" + arc + ")", x.cut(arc), m.cut(arc)); break;
            case 11: case 12: same("turn(" + arc + ")", x.turn(arc), m.turn(arc)); break;
            case 13: case 14: same("become(" + from + ", " + kind + ")",
                    x.become(from, kind), m.become(from, kind)); break;
            case 15: case 16: same("undo()", x.undo(), m.undo()); break;
            case 17: for (int k = 0; k < 25; k++) { same("undo()", x.undo(), m.undo()); } break;
            case 18: case 19: same("arc(" + arc + ", " + what + ")", x.arc(arc, what), m.arc(arc, what)); break;
            case 20: same("image(" + (what - 1) + ")", x.image(what - 1), m.image(what - 1)); break;
            case 21: if (d(3) == 0) { same("restore(" + what + ")", x.restore(what), m.restore(what)); } break;
            default: same("moves(" + what + ", " + from + ", " + letter + ")",
                    x.moves(what, from, letter), m.moves(what, from, letter)); break;
        }
    }

    private void callAlike() {
        int rule = near(4), rule2 = near(3), s = state(), p = state(), n = near(21), what = near(2);
        int letter = near(4), block = near(5), few = near(7), many = near(61), seed = near(1000000);
        switch (d(10)) {
            case 0: same("block(" + rule + ", " + s + ")", x.block(rule, s), m.block(rule, s)); break;
            case 1: same("parts(" + rule + ", " + what + ")", x.parts(rule, what), m.parts(rule, what)); break;
            case 2: same("behind(" + rule + ", " + n + ", " + s + ")",
                    x.behind(rule, n, s), m.behind(rule, n, s)); break;
            case 3: same("signs(" + rule2 + ", " + s + ")", x.signs(rule2, s), m.signs(rule2, s)); break;
            case 4: same("parted(" + rule + ", " + s + ", " + p + ")",
                    x.parted(rule, s, p), m.parted(rule, s, p)); break;
            case 5: same("small(" + rule2 + ", " + block + ", " + letter + ")",
                    x.small(rule2, block, letter), m.small(rule2, block, letter)); break;
            case 6: same("arcs(" + rule2 + ")", x.arcs(rule2), m.arcs(rule2)); break;
            case 7: same("words(" + s + ", " + Math.min(few, 7) + ")",
                    x.words(s, Math.min(few, 7)), m.words(s, Math.min(few, 7))); break;
            default: same("walk(" + s + ", " + many + ", " + seed + ")",
                    x.walk(s, many, seed), m.walk(s, many, seed)); break;
        }
    }

    private void callTold() {
        int rule = near(2), p = state(), q = state(), row = near(8), j = d(3) == 0 ? near(9999) : near(12) - 1;
        switch (d(6)) {
            case 0: case 1: same("tells(" + rule + ", " + p + ", " + q + ", " + j + ")",
                    x.tells(rule, p, q, j), m.tells(rule, p, q, j)); break;
            case 2: depth(rule, p, q); break;
            case 3: told(rule & 1, p, q); break;
            case 4: drawn(rule); break;
            default: fitting(near(3), row); break;
        }
    }

    private void depth(int rule, int p, int q) {
        Integer due = m.depth(rule, p, q);
        if (due != null) {
            same("depth(" + rule + ", " + p + ", " + q + ")", x.depth(rule, p, q), due);
        }
    }

    /** What tells p from q, brought to a row, must hold of p and not of q. */
    private void told(int rule, int p, int q) {
        int n = x.tells(rule, p, q, -1);
        same("tells(" + rule + ", " + p + ", " + q + ", -1)", n, m.tells(rule, p, q, -1));
        if (n < 1 || n > 30 || wrong != 0) {
            return;
        }
        row(7, d(3), n);
        for (int j = 0; j < n; j++) {
            set(7, j, x.tells(rule, p, q, j));
        }
        if (x.holds(rule, p, 7, n) != 1 || x.holds(rule, q, 7, n) != 0) {
            same("holds of what tells " + p + " from " + q, 0, 1);
        }
        holds(rule, p, 7, n);
        holds(rule, q, 7, n);
        holds(rule, state(), 7, n);
        holds(1 - rule, state(), 7, n);
        holds(rule, state(), 7, near(31));
    }

    private void drawn(int rule) {
        int row = near(8);
        List<Integer> codes = new ArrayList<>();
        formula(codes, d(4));
        if (d(4) == 0) {
            codes.set(d(codes.size()), near(32));
        }
        int n = Math.min(codes.size(), 30);
        row(row, d(3), d(5) == 0 ? n + d(4) : n);
        for (int j = 0; j < n; j++) {
            set(row, j, codes.get(j));
        }
        holds(rule, state(), row, d(6) == 0 ? near(31) : n);
        holds(rule, state(), row, n);
        same("status()", x.status(), m.status());
    }

    private void formula(List<Integer> codes, int deep) {
        int draw = d(5);
        if (deep == 0 && draw > 1 || draw == 0) {
            codes.add(30);
        } else if (draw == 1) {
            codes.add(20);
            formula(codes, Math.max(0, deep - 1));
        } else {
            int n = d(4) == 0 ? 0 : d(4);
            codes.add(d(4));
            codes.add(10 + n);
            for (int i = 0; i < n; i++) {
                formula(codes, deep - 1);
            }
        }
    }

    private void fitting(int rule, int row) {
        int arc = arc();
        if (d(4) > 0 && m.count(1) > 0) {
            row(row, d(3), m.count(1) + d(3));
            for (int s = 0; s < m.count(1); s++) {
                set(row, s, d(30) == 0 ? near(10) : m.block(Math.floorMod(rule, 3), s));
            }
        }
        fits(rule, arc, row, 0);
        fits(rule, arc, row, 1);
        fits(rule, arc, row, 2);
        fits(near(3), arc, row, near(3));
        same("status()", x.status(), m.status());
    }

    private void callAsked() {
        int s = state(), kind = near(6), what = near(2), i = near(8), n = near(6);
        switch (d(8)) {
            case 0: same("kind(" + s + ")", x.kind(s), m.kind(s)); break;
            case 1: same("as(" + s + ", " + kind + ")", x.as(s, kind), m.as(s, kind)); break;
            case 2: case 3: same("ask(" + s + ", " + what + ")", x.ask(s, what), m.ask(s, what)); break;
            case 4: case 5: same("trace(" + i + ")", x.trace(i), m.trace(i)); break;
            case 6: same("count(" + n + ")", x.count(n), m.count(n)); break;
            default: same("status()", x.status(), m.status()); break;
        }
    }
}
