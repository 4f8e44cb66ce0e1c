import java.util.ArrayDeque;
import java.util.ArrayList;
import java.util.Arrays;
import java.util.Deque;
import java.util.HashSet;
import java.util.List;
import java.util.Set;
import java.util.TreeSet;

/**
 * The document once more, in other ways than the program's: relations between pairs instead of
 * numbered blocks, whole copies instead of a log of acts, formulas written out, bodies as methods
 * of classes that extend one another. Slow, and only there to be compared with.
 */
final class Model {
    static final int NONE = -1000000, BAD = -1000001, STATE = -1000002, FULL = -1000003;

    record Arc(int letter, int from, int to) { }

    static final class World {
        final List<Integer> kinds = new ArrayList<>();
        final List<Arc> arcs = new ArrayList<>();

        World copy() {
            World w = new World();
            w.kinds.addAll(kinds);
            w.arcs.addAll(arcs);
            return w;
        }

        boolean marked(int s) {
            return kinds.get(s) == 2 || kinds.get(s) == 5;
        }

        Set<Integer> goes(int s, int letter) {
            Set<Integer> out = new TreeSet<>();
            if (kinds.get(s) == 3) {
                return out;
            }
            for (Arc a : arcs) {
                if (a.letter == letter && a.from == s) {
                    out.add(a.to);
                }
                if (a.letter == letter && a.to == s && kinds.get(a.from) >= 4) {
                    out.add(a.from);
                }
            }
            return out;
        }

        Set<Integer> silent(int s) {
            Set<Integer> out = new TreeSet<>();
            Deque<Integer> open = new ArrayDeque<>();
            open.add(s);
            while (!open.isEmpty()) {
                int at = open.poll();
                if (out.add(at)) {
                    open.addAll(goes(at, 0));
                }
            }
            return out;
        }

        Set<Integer> moves(int rule, int s, int letter) {
            if (rule != 1) {
                return goes(s, letter);
            }
            if (letter == 0) {
                return silent(s);
            }
            Set<Integer> out = new TreeSet<>();
            for (int u : silent(s)) {
                for (int v : goes(u, letter)) {
                    out.addAll(silent(v));
                }
            }
            return out;
        }
    }

    /** parted[r][p][q]: whether p and q are in two blocks behind round r. */
    static final class Parted {
        final List<boolean[][]> rounds = new ArrayList<>();
        final World w;
        final int rule;
        final List<List<Set<Integer>>> moves = new ArrayList<>();

        Parted(World w, int rule) {
            this.w = w;
            this.rule = rule;
            int n = w.kinds.size();
            for (int s = 0; s < n; s++) {
                List<Set<Integer>> by = new ArrayList<>();
                for (int l = 0; l < 4; l++) {
                    by.add(w.moves(rule, s, l));
                }
                moves.add(by);
            }
            boolean[][] first = new boolean[n][n];
            for (int p = 0; p < n; p++) {
                for (int q = 0; q < n; q++) {
                    first[p][q] = w.marked(p) != w.marked(q);
                }
            }
            rounds.add(first);
            while (rule != 3) {
                boolean[][] last = rounds.get(rounds.size() - 1);
                boolean[][] next = new boolean[n][n];
                boolean any = false;
                for (int p = 0; p < n; p++) {
                    for (int q = 0; q < n; q++) {
                        next[p][q] = last[p][q] || !follows(last, p, q) || !follows(last, q, p);
                        any |= next[p][q] != last[p][q];
                    }
                }
                if (!any) {
                    break;
                }
                rounds.add(next);
            }
        }

        private boolean follows(boolean[][] last, int p, int q) {
            if (rule == 2) {
                return pairs(last, q).containsAll(pairs(last, p));
            }
            for (int l = 0; l < 4; l++) {
                for (int p2 : moves.get(p).get(l)) {
                    boolean met = false;
                    for (int q2 : moves.get(q).get(l)) {
                        met |= !last[p2][q2];
                    }
                    if (!met) {
                        return false;
                    }
                }
            }
            return true;
        }

        /** Pairs of a letter and a block, the block by its least state. */
        Set<List<Integer>> pairs(boolean[][] by, int s) {
            Set<List<Integer>> out = new HashSet<>();
            Set<Integer> from = new TreeSet<>();
            if (rule == 2) {
                Deque<Integer> open = new ArrayDeque<>();
                open.add(s);
                while (!open.isEmpty()) {
                    int at = open.poll();
                    if (from.add(at)) {
                        for (int to : w.goes(at, 0)) {
                            if (!by[s][to]) {
                                open.add(to);
                            }
                        }
                    }
                }
            } else {
                from.add(s);
            }
            for (int u : from) {
                for (int l = 0; l < 4; l++) {
                    for (int v : moves.get(u).get(l)) {
                        if (!(rule == 2 && l == 0 && !by[s][v])) {
                            out.add(List.of(l, least(by, v)));
                        }
                    }
                }
            }
            return out;
        }

        private int least(boolean[][] by, int s) {
            int u = 0;
            while (by[u][s]) {
                u++;
            }
            return u;
        }

        int number(boolean[][] by, int s) {
            int number = 0;
            for (int u = 0; u < least(by, s); u++) {
                if (least(by, u) == u) {
                    number++;
                }
            }
            return number;
        }

        boolean[][] last() {
            return rounds.get(rounds.size() - 1);
        }

        int in(int p, int q) {
            for (int r = 0; r < rounds.size(); r++) {
                if (rounds.get(r)[p][q]) {
                    return r;
                }
            }
            return NONE;
        }

        int blocks() {
            int most = 0;
            for (int s = 0; s < w.kinds.size(); s++) {
                most = Math.max(most, number(last(), s) + 1);
            }
            return most;
        }

        /** Writes the codes out, but no more than 10001 of them; gives the depth. */
        int tell(int p, int q, List<Integer> out) {
            int r = in(p, q);
            if (r == 0) {
                if (!w.marked(p)) {
                    put(out, 20);
                }
                put(out, 30);
                return 0;
            }
            for (int l = 0; l < 4; l++) {
                for (int p2 : moves.get(p).get(l)) {
                    boolean all = true;
                    for (int q2 : moves.get(q).get(l)) {
                        all &= in(p2, q2) != NONE && in(p2, q2) < r;
                    }
                    if (all) {
                        put(out, l);
                        put(out, 10 + moves.get(q).get(l).size());
                        int deep = 0;
                        for (int q2 : moves.get(q).get(l)) {
                            if (out.size() <= 10000) {
                                deep = Math.max(deep, tell(p2, q2, out));
                            }
                        }
                        return deep + 1;
                    }
                }
            }
            put(out, 20);
            return tell(q, p, out);
        }

        private static void put(List<Integer> out, int code) {
            if (out.size() <= 10000) {
                out.add(code);
            }
        }
    }

    /** Bodies, as Java itself would find them. */
    interface Lent {
        Model model();
        int number();

        default int size() {
            model().leave(10);
            int n = 0;
            for (int l = 0; l < 4; l++) {
                n += model().world.goes(number(), l).size();
            }
            return n;
        }

        default int mark() {
            model().leave(20);
            return number();
        }
    }

    record Bare(Model model, int number) implements Lent { }

    static class Place implements Lent {
        final Model m;
        final int s;

        Place(Model m, int s) {
            this.m = m;
            this.s = s;
        }

        public Model model() {
            return m;
        }

        public int number() {
            return s;
        }

        public int size() {
            m.leave(11);
            int lent = Lent.super.size();
            return lent + mark();
        }

        public int mark() {
            m.leave(21);
            int lent = Lent.super.mark();
            Parted parted = new Parted(m.world, 0);
            return lent + parted.number(parted.last(), s);
        }
    }

    static final class Goal extends Place {
        Goal(Model m, int s) {
            super(m, s);
        }

        public int size() {
            m.leave(12);
            return 0 - super.size();
        }

        public int mark() {
            m.leave(24);
            return super.mark() * 2;
        }
    }

    static final class Trap extends Place {
        Trap(Model m, int s) {
            super(m, s);
        }

        public int mark() {
            m.leave(22);
            return super.mark() - 1000;
        }
    }

    static class Door implements Lent {
        final Model m;
        final int s;

        Door(Model m, int s) {
            this.m = m;
            this.s = s;
        }

        public Model model() {
            return m;
        }

        public int number() {
            return s;
        }

        public int size() {
            m.leave(13);
            return Lent.super.size() - 100;
        }

        public int mark() {
            m.leave(23);
            int lent = Lent.super.mark();
            return lent - size();
        }
    }

    static final class Gate extends Door {
        Gate(Model m, int s) {
            super(m, s);
        }

        public int size() {
            m.leave(14);
            return super.size() * 2;
        }
    }

    private final int[][] rows = new int[8][];
    private final int[] lanes = new int[8];
    private final StringBuilder tape = new StringBuilder();
    World world = new World();
    private final List<World> before = new ArrayList<>();
    private final World[] images = new World[2];
    private final List<Integer> trace = new ArrayList<>();
    private int fault = 0;
    private int status = 0;

    private void leave(int number) {
        if (trace.size() < 16) {
            trace.add(number);
        }
    }

    private boolean state(int s) {
        return s >= 0 && s < world.kinds.size();
    }

    private boolean arcThere(int a) {
        return a >= 0 && a < world.arcs.size();
    }

    private static boolean in(int v, int... allowed) {
        return Arrays.stream(allowed).anyMatch(a -> a == v);
    }

    private int found(int number) {
        status = number;
        return -1000010 - number;
    }

    private int fine(int answer) {
        status = 0;
        return answer;
    }

    int row(int row, int lane, int n) {
        if (row < 0 || row > 7 || !in(lane, 0, 1, 2) || n > 40) {
            return BAD;
        }
        if (n < 0) {
            return found(4);
        }
        rows[row] = new int[n];
        lanes[row] = lane;
        return fine(n);
    }

    int set(int row, int i, int v) {
        if (row < 0 || row > 7) {
            return BAD;
        }
        if (rows[row] == null) {
            return found(1);
        }
        if (i < 0 || i >= rows[row].length) {
            return found(2);
        }
        int bits = lanes[row] == 0 ? 24 : lanes[row] == 1 ? 16 : 0;
        rows[row][i] = v << bits >> bits;
        return fine(rows[row][i]);
    }

    int copy(int a, int i, int b, int j, int n) {
        if (a < 0 || a > 7 || b < 0 || b > 7) {
            return BAD;
        }
        if (rows[a] == null || rows[b] == null) {
            return found(1);
        }
        if (lanes[a] != lanes[b]) {
            return found(5);
        }
        if (i < 0 || j < 0 || n < 0 || (long) i + n > rows[a].length || (long) j + n > rows[b].length) {
            return found(2);
        }
        int[] ahead = rows[a].clone();
        for (int k = 0; k < n; k++) {
            rows[b][j + k] = ahead[i + k];
        }
        return fine(n);
    }

    int drop(int row) {
        if (row < 0 || row > 7) {
            return BAD;
        }
        if (rows[row] == null) {
            return found(1);
        }
        int had = rows[row].length;
        rows[row] = null;
        return fine(had);
    }

    int feed(int letter) {
        if (letter < 0 || letter > 255) {
            return BAD;
        }
        if (tape.length() == 140) {
            return FULL;
        }
        tape.append((char) letter);
        return tape.length();
    }

    private record Token(char sort, int value, int at) { }

    /** sort: the letter or sign itself, 'N' a number, '?' none, '.' the end. */
    private static List<Token> tokens(String text) {
        List<Token> out = new ArrayList<>();
        int at = 0;
        while (at < text.length()) {
            char c = text.charAt(at);
            int end = at + 1;
            if (c >= '0' && c <= '9') {
                while (end < text.length() && text.charAt(end) >= '0' && text.charAt(end) <= '9') {
                    end++;
                }
                boolean is = end - at <= 2;
                out.add(new Token(is ? 'N' : '?', is ? Integer.parseInt(text.substring(at, end)) : 0, at));
            } else if (c >= 'a' && c <= 'z' || c == ',' || c == ';') {
                out.add(new Token(c, 0, at));
            } else {
                out.add(new Token('?', 0, at));
            }
            at = end;
        }
        out.add(new Token('.', 0, text.length()));
        return out;
    }

    int system() {
        String text = tape.toString();
        tape.setLength(0);
        World draft = new World();
        // what may come next: S a state or (behind one) an arc or the end, A an arc or the end,
        // s the ; of a state, f a number, c the comma, n a number, e the ; of an arc
        char due = 'S';
        int letter = 0;
        int from = 0;
        int to = 0;
        for (Token t : tokens(text)) {
            int wrong = 0;
            int sort = "pgxdw".indexOf(t.sort);
            int arc = "tabc".indexOf(t.sort);
            if (due == 'S' && sort >= 0) {
                wrong = draft.kinds.size() == 10 ? 3 : 0;
                draft.kinds.add(sort + 1);
                due = 's';
            } else if ((due == 'S' && !draft.kinds.isEmpty() || due == 'A') && arc >= 0) {
                wrong = draft.arcs.size() == 20 ? 3 : 0;
                letter = arc;
                due = 'f';
            } else if (due == 's' && t.sort == ';') {
                due = 'S';
            } else if (due == 'f' && t.sort == 'N') {
                wrong = t.value >= draft.kinds.size() ? 2 : 0;
                from = t.value;
                due = 'c';
            } else if (due == 'c' && t.sort == ',') {
                due = 'n';
            } else if (due == 'n' && t.sort == 'N') {
                wrong = t.value >= draft.kinds.size() ? 2 : 0;
                to = t.value;
                due = 'e';
            } else if (due == 'e' && t.sort == ';') {
                draft.arcs.add(new Arc(letter, from, to));
                due = 'A';
            } else if (!(t.sort == '.' && (due == 'A' || due == 'S' && !draft.kinds.isEmpty()))) {
                wrong = 1;
            }
            if (wrong != 0) {
                fault = wrong;
                return -1000100 - t.at;
            }
        }
        world = draft;
        before.clear();
        return world.kinds.size();
    }

    int fault() {
        return fault;
    }

    private void act(World next) {
        before.add(world);
        if (before.size() > 20) {
            before.remove(0);
        }
        world = next;
    }

    int lay(int letter, int from, int to) {
        if (!in(letter, 0, 1, 2, 3) || !state(from) || !state(to)) {
            return BAD;
        }
        if (world.arcs.size() == 20) {
            return FULL;
        }
        World next = world.copy();
        next.arcs.add(new Arc(letter, from, to));
        act(next);
        return next.arcs.size();
    }

    int cut(int arc) {
        if (!arcThere(arc)) {
            return BAD;
        }
        World next = world.copy();
        next.arcs.remove(arc);
        act(next);
        return next.arcs.size();
    }

    int turn(int arc) {
        if (!arcThere(arc)) {
            return BAD;
        }
        World next = world.copy();
        Arc a = next.arcs.get(arc);
        next.arcs.set(arc, new Arc(a.letter, a.to, a.from));
        act(next);
        return a.from;
    }

    int become(int state, int kind) {
        if (!state(state) || !in(kind, 1, 2, 3, 4, 5)) {
            return BAD;
        }
        if (world.kinds.get(state) == kind) {
            return STATE;
        }
        World next = world.copy();
        int was = next.kinds.set(state, kind);
        act(next);
        return was;
    }

    int undo() {
        if (before.isEmpty()) {
            return STATE;
        }
        world = before.remove(before.size() - 1);
        return before.size();
    }

    int arc(int arc, int what) {
        if (!arcThere(arc) || !in(what, 0, 1, 2)) {
            return BAD;
        }
        Arc a = world.arcs.get(arc);
        return what == 0 ? a.letter : what == 1 ? a.from : a.to;
    }

    private static int bits(Iterable<Integer> set) {
        int out = 0;
        for (int s : set) {
            out |= 1 << s;
        }
        return out;
    }

    int moves(int rule, int state, int letter) {
        if (!in(rule, 0, 1, 2) || !state(state) || !in(letter, 0, 1, 2, 3)) {
            return BAD;
        }
        return bits(world.moves(rule, state, letter));
    }

    int block(int rule, int state) {
        if (!in(rule, 0, 1, 2, 3) || !state(state)) {
            return BAD;
        }
        Parted parted = new Parted(world, rule);
        return parted.number(parted.last(), state);
    }

    int parts(int rule, int what) {
        if (world.kinds.isEmpty()) {
            return STATE;
        }
        if (!in(rule, 0, 1, 2, 3) || !in(what, 0, 1)) {
            return BAD;
        }
        Parted parted = new Parted(world, rule);
        return what == 0 ? parted.blocks() : parted.rounds.size() - 1;
    }

    int behind(int rule, int n, int state) {
        if (!in(rule, 0, 1, 2, 3) || n < 0 || n > 20 || !state(state)) {
            return BAD;
        }
        Parted parted = new Parted(world, rule);
        return parted.number(parted.rounds.get(Math.min(n, parted.rounds.size() - 1)), state);
    }

    long signs(int rule, int state) {
        if (!in(rule, 0, 1, 2) || !state(state)) {
            return BAD;
        }
        Parted parted = new Parted(world, rule);
        long out = 0;
        for (List<Integer> pair : parted.pairs(parted.last(), state)) {
            out |= 1L << 10 * pair.get(0) + parted.number(parted.last(), pair.get(1));
        }
        return out;
    }

    int parted(int rule, int p, int q) {
        if (!in(rule, 0, 1, 2, 3) || !state(p) || !state(q)) {
            return BAD;
        }
        return new Parted(world, rule).in(p, q);
    }

    int tells(int rule, int p, int q, int j) {
        if (!in(rule, 0, 1) || !state(p) || !state(q) || j < -1 || j > 9998) {
            return BAD;
        }
        List<Integer> codes = codes(rule, p, q);
        if (codes.isEmpty()) {
            return NONE;
        }
        if (j == -1) {
            return Math.min(codes.size(), 9999);
        }
        return j < codes.size() ? codes.get(j) : NONE;
    }

    /** What tells p from q, written out, but no more than 10001 codes of it; none: they are alike. */
    List<Integer> codes(int rule, int p, int q) {
        Parted parted = new Parted(world, rule);
        List<Integer> codes = new ArrayList<>();
        if (parted.in(p, q) != NONE) {
            parted.tell(p, q, codes);
        }
        return codes;
    }

    /** Free to answer only while the formula is not too long to be written out. */
    Integer depth(int rule, int p, int q) {
        if (!in(rule, 0, 1) || !state(p) || !state(q)) {
            return BAD;
        }
        Parted parted = new Parted(world, rule);
        if (parted.in(p, q) == NONE) {
            return NONE;
        }
        List<Integer> codes = new ArrayList<>();
        int deep = parted.tell(p, q, codes);
        return codes.size() > 10000 ? null : (Integer) deep;
    }

    private int readAt;
    private boolean readWrong;

    private boolean formula(int rule, int s, int[] codes, int n) {
        if (readAt >= n || readWrong) {
            readWrong = true;
            return false;
        }
        int code = codes[readAt++];
        if (code == 30) {
            return world.marked(s);
        }
        if (code == 20) {
            return !formula(rule, s, codes, n);
        }
        if (code < 0 || code > 3 || readAt >= n || codes[readAt] < 10 || codes[readAt] > 19) {
            readWrong = true;
            return false;
        }
        int many = codes[readAt++] - 10;
        int listAt = readAt;
        boolean any = false;
        // a state that is none of those moved to is taken along, so that the list is always read
        for (int to = 0; to < world.kinds.size() && !readWrong; to++) {
            readAt = listAt;
            boolean all = true;
            for (int k = 0; k < many; k++) {
                all &= formula(rule, to, codes, n);
            }
            any |= all && world.moves(rule, s, code).contains(to);
        }
        return any;
    }

    int holds(int rule, int state, int row, int n) {
        if (!in(rule, 0, 1) || !state(state) || row < 0 || row > 7 || n < 1 || n > 30) {
            return BAD;
        }
        if (rows[row] == null) {
            return found(1);
        }
        if (n > rows[row].length) {
            return found(2);
        }
        readAt = 0;
        readWrong = false;
        boolean holds = formula(rule, state, rows[row], n);
        if (readWrong || readAt != n) {
            return fine(NONE);
        }
        return fine(holds ? 1 : 0);
    }

    int small(int rule, int block, int letter) {
        if (!in(rule, 0, 1, 2) || world.kinds.isEmpty() || block < 0 || !in(letter, 0, 1, 2, 3)) {
            return BAD;
        }
        Parted parted = new Parted(world, rule);
        if (block >= parted.blocks()) {
            return BAD;
        }
        int out = 0;
        for (int s = 0; s < world.kinds.size(); s++) {
            if (parted.number(parted.last(), s) == block) {
                for (int to : world.goes(s, letter)) {
                    int there = parted.number(parted.last(), to);
                    if (!(rule > 0 && letter == 0 && there == block)) {
                        out |= 1 << there;
                    }
                }
            }
        }
        return out;
    }

    int arcs(int rule) {
        if (world.kinds.isEmpty()) {
            return STATE;
        }
        if (!in(rule, 0, 1, 2)) {
            return BAD;
        }
        int n = 0;
        for (int b = 0; b < 10; b++) {
            for (int l = 0; l < 4; l++) {
                int to = small(rule, b, l);
                n += to == BAD ? 0 : Integer.bitCount(to);
            }
        }
        return n;
    }

    int words(int state, int n) {
        if (!state(state) || n < 0 || n > 6) {
            return BAD;
        }
        int rows = 1;
        for (int i = 0; i < n; i++) {
            rows *= 3;
        }
        int spelt = 0;
        for (int word = 0; word < rows; word++) {
            Set<Integer> at = world.silent(state);
            int rest = word;
            for (int i = 0; i < n; i++) {
                Set<Integer> next = new TreeSet<>();
                for (int s : at) {
                    for (int to : world.goes(s, rest % 3 + 1)) {
                        next.addAll(world.silent(to));
                    }
                }
                rest /= 3;
                at = next;
            }
            spelt += at.isEmpty() ? 0 : 1;
        }
        return spelt;
    }

    int walk(int state, int n, int seed) {
        if (!state(state) || n < 0 || n > 60 || seed < 1 || seed > 999999) {
            return BAD;
        }
        long x = seed;
        int at = state;
        for (int i = 0; i < n; i++) {
            x = x * 16807 % 2147483647;
            List<Integer> ways = new ArrayList<>();
            for (int l = 0; l < 4; l++) {
                ways.addAll(world.goes(at, l));
            }
            if (!ways.isEmpty()) {
                at = ways.get((int) (x % ways.size()));
            }
        }
        return at;
    }

    int fits(int rule, int arc, int row, int what) {
        if (!in(rule, 0, 1, 2) || !arcThere(arc) || row < 0 || row > 7 || !in(what, 0, 1, 2)) {
            return BAD;
        }
        if (rows[row] == null) {
            return found(1);
        }
        int n = world.kinds.size();
        if (rows[row].length < n) {
            return found(2);
        }
        int out = 0;
        for (int v = 0; v < (what == 0 ? 4 : n); v++) {
            World other = world.copy();
            Arc a = other.arcs.get(arc);
            other.arcs.set(arc, new Arc(what == 0 ? v : a.letter, what == 1 ? v : a.from, what == 2 ? v : a.to));
            Parted parted = new Parted(other, rule);
            boolean same = true;
            for (int s = 0; s < n; s++) {
                same &= parted.number(parted.last(), s) == rows[row][s];
            }
            out |= same ? 1 << v : 0;
        }
        return fine(out);
    }

    int image(int k) {
        if (!in(k, 0, 1)) {
            return BAD;
        }
        if (world.kinds.isEmpty()) {
            return STATE;
        }
        images[k] = world.copy();
        return 1;
    }

    int restore(int k) {
        if (!in(k, 0, 1)) {
            return BAD;
        }
        if (images[k] == null) {
            return STATE;
        }
        world = images[k].copy();
        before.clear();
        return 1;
    }

    int kind(int state) {
        return state(state) ? world.kinds.get(state) : BAD;
    }

    private Lent asJava(int state) {
        switch (world.kinds.get(state)) {
            case 1: return new Place(this, state);
            case 2: return new Goal(this, state);
            case 3: return new Trap(this, state);
            case 4: return new Door(this, state);
            case 5: return new Gate(this, state);
            default: return new Bare(this, state);
        }
    }

    int as(int state, int kind) {
        if (!state(state) || !in(kind, 0, 1, 2, 3, 4, 5)) {
            return BAD;
        }
        Class<?>[] kinds = {Lent.class, Place.class, Goal.class, Trap.class, Door.class, Gate.class};
        return kinds[kind].isInstance(asJava(state)) ? fine(state) : found(3);
    }

    int ask(int state, int what) {
        if (!state(state) || !in(what, 0, 1)) {
            return BAD;
        }
        trace.clear();
        return what == 0 ? asJava(state).size() : asJava(state).mark();
    }

    int trace(int i) {
        return i >= 0 && i < trace.size() ? trace.get(i) : NONE;
    }

    int count(int what) {
        switch (what) {
            case 0:
                int there = 0;
                for (int[] row : rows) {
                    there += row == null ? 0 : 1;
                }
                return there;
            case 1:
                return world.kinds.size();
            case 2:
                return world.arcs.size();
            case 3:
                int marked = 0;
                for (int s = 0; s < world.kinds.size(); s++) {
                    marked |= world.marked(s) ? 1 << s : 0;
                }
                return marked;
            case 4:
                return before.size();
            case 5:
                return tape.length();
            default:
                return BAD;
        }
    }

    int status() {
        return status;
    }
}
