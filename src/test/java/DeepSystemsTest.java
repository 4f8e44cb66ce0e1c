import java.util.List;

/**
 * Systems that were searched for, since drawn ones are hardly ever so: parted in eight or nine
 * rounds, and told apart by formulas that are turned round in nearly each of them.
 */
public final class DeepSystemsTest {
    private static final String[] SYSTEMS = {
        "p;p;d;d;d;d;d;p;d;x;t9,7;t4,8;t4,0;t0,2;t6,4;t3,2;t8,7;t9,3;t8,1;t5,7;t3,0;t6,9;t4,6;t2,5;t3,8;t8,2;t6,7;t6,2;t2,1;",
        "d;w;p;w;w;d;g;w;w;d;t4,4;t1,0;t6,5;t6,4;t5,7;t9,7;t6,4;t0,4;t8,6;t0,7;t2,7;t0,8;t1,4;t7,4;t2,6;t5,1;t3,0;t8,7;t0,6;",
        "p;p;p;p;p;p;p;g;p;p;t4,5;t3,6;t9,8;t4,9;t5,0;t5,7;t5,3;t0,7;t7,7;t2,1;t1,9;t1,3;t0,6;t3,8;t8,7;t2,4;t9,0;",
        "d;d;d;d;d;d;d;x;p;p;t0,8;t5,3;t5,0;t6,5;t7,8;t8,2;t5,1;t3,2;t1,4;t0,2;t1,2;t0,2;t5,9;t1,7;t9,4;t0,4;t8,0;t9,2;t0,9;t7,1;",
        "g;g;g;g;g;g;g;g;g;g;a6,5;a4,2;t0,6;a4,3;t6,3;a9,6;a8,0;a7,9;t4,3;a1,2;a5,7;a2,0;a5,6;t1,6;a7,0;t8,5;a9,3;a0,4;t6,8;",
        "g;w;w;w;w;w;w;w;w;w;t0,3;t1,2;t0,2;t9,2;t7,0;t1,3;t8,1;t7,4;t8,2;t5,7;t5,1;t4,3;t1,0;t0,6;t9,4;t4,1;t0,8;t8,4;t9,0;",
        "g;g;w;g;w;w;g;w;g;w;b2,6;b4,4;b4,5;b1,8;b9,5;b3,9;b4,7;b9,7;b1,4;t3,1;b8,0;b9,5;b7,6;t6,5;b5,8;",
        "p;p;p;p;g;g;p;p;p;p;t1,5;a9,7;a5,0;t7,5;t3,9;a4,5;t2,1;a5,0;a8,8;a2,2;t9,5;t6,2;t6,8;t8,5;a4,7;a5,3;t3,4;t7,4;",
        "g;g;g;g;g;g;g;g;g;g;a4,0;t5,7;a1,7;t2,5;t0,7;a6,9;a0,4;a8,2;a8,0;a1,6;a6,6;a5,2;a4,9;a7,6;t6,3;a2,1;a3,8;t8,6;",
        "g;g;g;g;g;g;g;g;g;g;t2,6;a5,3;a9,5;a9,6;a8,2;a0,1;t4,8;a4,9;a2,9;a7,6;t5,6;a6,8;a3,4;a4,0;a2,2;t7,6;t9,9;",
        "p;p;p;p;p;p;p;p;p;p;a3,0;a6,8;a8,0;a3,6;a1,5;a4,3;a6,4;t2,0;t2,1;a5,8;a0,7;t7,1;a4,9;a7,3;t0,5;",
        "g;g;g;g;g;g;g;g;g;g;a4,5;a8,7;a3,4;a2,6;b4,8;a9,1;t4,1;a7,9;a1,5;a9,3;a4,7;a0,1;b4,8;a8,5;a6,0;a5,8;",
    };
    private static final int STATES = 10;
    private static final int MOST_CALLS = 512;

    private static long done = 0;
    private static int wrong = 0;

    private final String text;
    private AlikeSteps x;
    private Model m;
    private int calls;

    private DeepSystemsTest(String text) {
        this.text = text;
    }

    public static void main(String[] args) {
        int[] most = new int[3];
        for (String text : SYSTEMS) {
            DeepSystemsTest test = new DeepSystemsTest(text);
            for (int rule = 0; rule < 3; rule++) {
                test.read();
                most[rule] = Math.max(most[rule], test.x.parts(rule, 1));
                test.blocks(rule);
                test.pairs(rule);
                test.small(rule);
                test.fitting(rule);
            }
        }
        for (int rule = 0; rule < 3; rule++) {
            due("the most rounds by rule " + rule, most[rule], 9);
        }
        System.out.println("deep systems: " + done + " answers, " + wrong + " not as due");
        if (wrong != 0) {
            System.exit(1);
        }
    }

    private static void due(String call, long got, long want) {
        done++;
        if (got != want) {
            wrong++;
            System.out.println(call + " answered " + got + ", due is " + want);
        }
    }

    private void same(String call, long got, long want) {
        calls++;
        due(text + " " + call, got, want);
    }

    /** An object is used for so many calls alone. */
    private void read() {
        x = new AlikeSteps();
        m = new Model();
        calls = 1;
        for (int i = 0; i < text.length(); i++) {
            same("feed", x.feed(text.charAt(i)), m.feed(text.charAt(i)));
        }
        same("system()", x.system(), STATES);
        same("system() of the model", m.system(), STATES);
    }

    private void room(int wanted) {
        if (calls + wanted > MOST_CALLS) {
            read();
        }
    }

    private void blocks(int rule) {
        for (int n = 0; n <= 10; n++) {
            for (int s = 0; s < STATES; s++) {
                room(3);
                same("behind(" + rule + ", " + n + ", " + s + ")", x.behind(rule, n, s), m.behind(rule, n, s));
                same("block(" + rule + ", " + s + ")", x.block(rule, s), m.block(rule, s));
                same("signs(" + rule + ", " + s + ")", x.signs(rule, s), m.signs(rule, s));
            }
        }
        room(2);
        same("parts(" + rule + ", 0)", x.parts(rule, 0), m.parts(rule, 0));
        same("parts(" + rule + ", 1)", x.parts(rule, 1), m.parts(rule, 1));
    }

    private void pairs(int rule) {
        for (int p = 0; p < STATES; p++) {
            for (int q = 0; q < STATES; q++) {
                room(1);
                same("parted(" + rule + ", " + p + ", " + q + ")", x.parted(rule, p, q), m.parted(rule, p, q));
                if (rule < 2) {
                    told(rule, p, q);
                }
            }
        }
    }

    /** The codes one by one; of a long row those at both ends, and some between. */
    private void told(int rule, int p, int q) {
        List<Integer> codes = m.codes(rule, p, q);
        String pair = "(" + rule + ", " + p + ", " + q + ", ";
        int size = Math.min(codes.size(), 9999);
        room(2);
        same("tells" + pair + "-1)", x.tells(rule, p, q, -1), size == 0 ? Model.NONE : size);
        Integer depth = m.depth(rule, p, q);
        if (depth != null) {
            same("depth" + pair, x.depth(rule, p, q), depth);
        }
        int stride = Math.max(1, size / 300);
        for (int j = 0; j < size; j += j < 50 || j >= size - 50 ? 1 : stride) {
            room(1);
            same("tells" + pair + j + ")", x.tells(rule, p, q, j), codes.get(j));
        }
        if (size < 9999) {
            room(1);
            same("tells" + pair + size + ")", x.tells(rule, p, q, size), Model.NONE);
        }
    }

    private void small(int rule) {
        for (int letter = 0; letter < 4; letter++) {
            for (int s = 0; s <= STATES; s++) {
                room(2);
                same("small(" + rule + ", " + s + ", " + letter + ")",
                        x.small(rule, s, letter), m.small(rule, s, letter));
                same("moves(" + rule + ", " + s + ", " + letter + ")",
                        x.moves(rule, s, letter), m.moves(rule, s, letter));
            }
        }
        room(1);
        same("arcs(" + rule + ")", x.arcs(rule), m.arcs(rule));
    }

    /** By the blocks of the system itself: each arc fits at least as it is. */
    private void fitting(int rule) {
        for (int arc = 0; arc < m.count(2); arc++) {
            read();
            x.row(3, 0, STATES);
            m.row(3, 0, STATES);
            for (int s = 0; s < STATES; s++) {
                same("set(3, " + s + ")", x.set(3, s, x.block(rule, s)), m.set(3, s, m.block(rule, s)));
            }
            for (int what = 0; what < 3; what++) {
                int fits = x.fits(rule, arc, 3, what);
                same("fits(" + rule + ", " + arc + ", 3, " + what + ")", fits, m.fits(rule, arc, 3, what));
                due(text + " fits as it is", fits >> x.arc(arc, what) & 1, 1);
            }
        }
    }
}
