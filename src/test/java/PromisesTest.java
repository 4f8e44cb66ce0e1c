/**
 * Each promise of the document by itself: ordinary inputs, the edges that it names, and wrong ones.
 * The answers that are due were worked out by hand from the document.
 */
public final class PromisesTest {
    private static final int NONE = -1000000, BAD = -1000001, STATE = -1000002, FULL = -1000003;
    private static final int NULL = -1000011, PLACE = -1000012, KIND = -1000013, SIZE = -1000014, STORE = -1000015;
    private static final int MIN = Integer.MIN_VALUE, MAX = Integer.MAX_VALUE;

    private static int promise = 0;
    private static int done = 0;
    private static int wrong = 0;

    private static void due(long want, long got) {
        done++;
        if (got != want) {
            wrong++;
            StackTraceElement at = new Throwable().getStackTrace()[1];
            System.out.println("promise " + promise + ", line " + at.getLineNumber()
                    + ": answered " + got + ", due is " + want);
        }
    }

    private static AlikeSteps read(String text) {
        AlikeSteps x = new AlikeSteps();
        reread(x, text);
        return x;
    }

    private static int reread(AlikeSteps x, String text) {
        for (int i = 0; i < text.length(); i++) {
            x.feed(text.charAt(i));
        }
        return x.system();
    }

    private static void fill(AlikeSteps x, int row, int lane, int... items) {
        x.row(row, lane, items.length);
        for (int i = 0; i < items.length; i++) {
            x.set(row, i, items[i]);
        }
    }


    public static void main(String[] args) {
        newObject();
        row();
        set();
        copy();
        drop();
        feed();
        system();
        systemFaults();
        fault();
        lay();
        cut();
        turn();
        become();
        undo();
        arc();
        moves();
        movesOfDoorsAndTraps();
        block();
        parts();
        behind();
        signs();
        parted();
        tells();
        depth();
        holds();
        small();
        arcs();
        words();
        walk();
        fits();
        image();
        restore();
        kind();
        as();
        ask();
        trace();
        count();
        status();
        System.out.println("promises: " + done + " answers, " + wrong + " not as due");
        if (wrong != 0) {
            System.exit(1);
        }
    }

    private static void newObject() {
        promise = 1;
        AlikeSteps x = new AlikeSteps();
        for (int what = 0; what <= 5; what++) {
            due(0, x.count(what));
        }
        due(0, x.status());
        due(0, x.fault());
        due(NONE, x.trace(0));
        due(STATE, x.undo());
        due(STATE, x.parts(0, 0));
        due(STATE, x.arcs(0));
        due(STATE, x.image(0));
        due(STATE, x.restore(1));
        due(BAD, x.kind(0));
        due(BAD, x.small(0, 0, 0));
        due(NONE, AlikeSteps.NONE);
        due(BAD, AlikeSteps.BAD);
        due(STATE, AlikeSteps.STATE);
        due(FULL, AlikeSteps.FULL);
    }

    private static void row() {
        promise = 2;
        AlikeSteps x = new AlikeSteps();
        due(0, x.row(0, 0, 0));
        due(40, x.row(7, 2, 40));
        due(3, x.row(3, 1, 3));
        due(3, x.count(0));
        due(BAD, x.row(-1, 0, 1));
        due(BAD, x.row(8, 0, 1));
        due(BAD, x.row(MIN, 0, 1));
        due(BAD, x.row(MAX, 0, 1));
        due(BAD, x.row(0, -1, 1));
        due(BAD, x.row(0, 3, 1));
        due(BAD, x.row(0, 0, 41));
        due(BAD, x.row(0, 0, MAX));
        due(SIZE, x.row(0, 0, -1));
        due(SIZE, x.row(0, 0, MIN));
        due(BAD, x.row(8, 0, -1));
        due(BAD, x.row(0, 3, -1));
        due(3, x.count(0));
        // a row in place of another has items 0 again, and what is refused leaves the row there
        due(9, x.set(3, 0, 9));
        due(SIZE, x.row(3, 0, -1));
        due(300, x.set(3, 2, 300));
        due(5, x.row(3, 0, 5));
        due(5, x.drop(3));
        AlikeSteps y = read("p;g;");
        fill(y, 0, 2, 30, 30);
        due(1, y.holds(0, 1, 0, 1));
        due(1, y.row(0, 0, 1));
        due(NONE, y.holds(0, 1, 0, 1));
        // a new ITEM is 0: with 10 behind it, that there is a silent move
        AlikeSteps z = read("p;t0,0;");
        fill(z, 1, 2, 7, 7);
        z.row(1, 1, 2);
        due(NONE, z.holds(0, 0, 1, 2));
        z.set(1, 1, 10);
        due(1, z.holds(0, 0, 1, 2));
    }

    private static void set() {
        promise = 3;
        AlikeSteps x = new AlikeSteps();
        x.row(0, 0, 2);
        x.row(1, 1, 2);
        x.row(2, 2, 2);
        due(127, x.set(0, 0, 127));
        due(-128, x.set(0, 0, 128));
        due(-1, x.set(0, 1, 255));
        due(0, x.set(0, 1, 256));
        due(-128, x.set(0, 1, -128));
        due(127, x.set(0, 1, -129));
        due(32767, x.set(1, 0, 32767));
        due(-32768, x.set(1, 0, 32768));
        due(0, x.set(1, 0, 65536));
        due(MIN, x.set(2, 1, MIN));
        due(MAX, x.set(2, 1, MAX));
        due(PLACE, x.set(2, 2, 0));
        due(PLACE, x.set(2, -1, 0));
        due(PLACE, x.set(2, MIN, 0));
        due(PLACE, x.set(2, MAX, 0));
        due(BAD, x.set(8, 0, 0));
        due(BAD, x.set(-1, 0, 0));
        due(NULL, x.set(3, 0, 0));
        due(NULL, x.set(3, -1, 0));
        x.row(3, 0, 0);
        due(PLACE, x.set(3, 0, 0));
    }

    private static void copy() {
        promise = 4;
        AlikeSteps x = read("g;p;a0,1;");
        fill(x, 0, 0, 1, 11, 20, 30, 5, 6);
        fill(x, 1, 0, 0, 0, 0, 0);
        due(4, x.copy(0, 0, 1, 0, 4));
        due(1, x.holds(0, 0, 1, 4));
        due(1, x.holds(0, 0, 0, 4));
        // within one row, over each other, both ways
        fill(x, 2, 0, 20, 20, 30, 7, 7);
        due(3, x.copy(2, 0, 2, 1, 3));
        due(0, x.holds(0, 0, 2, 4));
        fill(x, 2, 0, 20, 1, 11, 20, 30);
        due(4, x.copy(2, 1, 2, 0, 4));
        due(1, x.holds(0, 0, 2, 4));
        due(0, x.copy(0, 6, 1, 4, 0));
        due(PLACE, x.copy(0, 7, 1, 4, 0));
        due(PLACE, x.copy(0, 6, 1, 5, 0));
        due(PLACE, x.copy(0, -1, 1, 0, 1));
        due(PLACE, x.copy(0, 0, 1, -1, 1));
        due(PLACE, x.copy(0, 0, 1, 0, -1));
        due(PLACE, x.copy(0, 0, 1, 0, 5));
        due(PLACE, x.copy(0, 3, 1, 0, 4));
        due(PLACE, x.copy(0, MAX, 1, 0, MAX));
        due(PLACE, x.copy(0, 1, 1, 1, MAX));
        due(PLACE, x.copy(0, MIN, 1, MIN, MIN));
        x.row(3, 1, 4);
        due(STORE, x.copy(0, 0, 3, 0, 1));
        due(STORE, x.copy(3, 0, 0, -1, 99));
        due(NULL, x.copy(0, 0, 5, 0, 1));
        due(NULL, x.copy(5, -1, 3, 0, 1));
        due(BAD, x.copy(8, 0, 0, 0, 1));
        due(BAD, x.copy(0, 0, -1, 0, 1));
        due(BAD, x.copy(5, 0, 8, 0, 1));
        due(1, x.holds(0, 0, 1, 4));
    }

    private static void drop() {
        promise = 5;
        AlikeSteps x = new AlikeSteps();
        x.row(0, 0, 0);
        x.row(7, 1, 40);
        due(40, x.drop(7));
        due(1, x.count(0));
        due(NULL, x.drop(7));
        due(NULL, x.set(7, 0, 0));
        due(0, x.drop(0));
        due(NULL, x.drop(1));
        due(BAD, x.drop(8));
        due(BAD, x.drop(-1));
        due(0, x.count(0));
    }

    private static void feed() {
        promise = 6;
        AlikeSteps x = new AlikeSteps();
        due(BAD, x.feed(-1));
        due(BAD, x.feed(256));
        due(BAD, x.feed(MIN));
        due(1, x.feed(0));
        due(2, x.feed(255));
        for (int n = 3; n <= 140; n++) {
            due(n, x.feed('p'));
        }
        due(140, x.count(5));
        due(FULL, x.feed('p'));
        due(BAD, x.feed(256));
        due(140, x.count(5));
        due(-1000100, x.system());
        due(0, x.count(5));
        due(1, x.feed('p'));
    }

    private static String times(String text, int n) {
        return text.repeat(n);
    }

    private static void system() {
        promise = 7;
        AlikeSteps x = new AlikeSteps();
        due(1, reread(x, "p;"));
        due(5, reread(x, "p;g;x;d;w;"));
        due(0, x.count(5));
        for (int s = 0; s < 5; s++) {
            due(s + 1, x.kind(s));
        }
        due(10, reread(x, times("g;", 10)));
        due(1023, x.count(3));
        due(1, reread(x, "p;" + times("a0,0;", 20)));
        due(20, x.count(2));
        due(2, reread(x, "p;p;t0,1;a1,0;b00,01;c1,1;"));
        int[][] arcs = {{0, 0, 1}, {1, 1, 0}, {2, 0, 1}, {3, 1, 1}};
        for (int a = 0; a < 4; a++) {
            for (int what = 0; what < 3; what++) {
                due(arcs[a][what], x.arc(a, what));
            }
        }
        // another one stands in its place, and no act can be undone
        x.lay(0, 0, 0);
        due(-1000100, reread(x, ""));
        due(5, x.count(2));
        due(1, x.count(4));
        due(-1000102, reread(x, "p;?"));
        due(2, x.count(1));
        due(0, x.undo());
        x.lay(0, 0, 0);
        due(1, reread(x, "x;"));
        due(0, x.count(2));
        due(0, x.count(4));
        due(STATE, x.undo());
    }

    private static void faulty(String text, int place, int number) {
        AlikeSteps x = read("p;p;a0,1;");
        due(-1000100 - place, reread(x, text));
        due(number, x.fault());
        due(2, x.count(1));
        due(1, x.count(2));
        due(0, x.count(5));
    }

    private static void systemFaults() {
        promise = 7;
        faulty("", 0, 1);
        faulty("p", 1, 1);
        faulty("q;", 0, 1);
        faulty("P;", 0, 1);
        faulty(";", 0, 1);
        faulty("1;", 0, 1);
        faulty("t;", 0, 1);
        faulty("t0,0;", 0, 1);
        faulty("p,", 1, 1);
        faulty("p;;", 2, 1);
        faulty("p; ", 2, 1);
        faulty("p;123", 2, 1);
        faulty("p;a", 3, 1);
        faulty("p;a;", 3, 1);
        faulty("p;a,", 3, 1);
        faulty("p;aa", 3, 1);
        faulty("p;a0", 4, 1);
        faulty("p;a0;", 4, 1);
        faulty("p;a0,", 5, 1);
        faulty("p;a0,;", 5, 1);
        faulty("p;a0,0", 6, 1);
        faulty("p;a0,0,", 6, 1);
        faulty("p;a0,0;p;", 7, 1);
        faulty("p;a0,0;;", 7, 1);
        faulty("p;a0,0;a", 8, 1);
        faulty("p;a000,0;", 3, 1);
        faulty("p;a0,0000;", 5, 1);
        faulty("p;a999,0;", 3, 1);
        faulty("p;a1,0;", 3, 2);
        faulty("p;a0,1;", 5, 2);
        faulty("p;a99,x", 3, 2);
        faulty("p;p;a1,02;", 7, 2);
        faulty(times("p;", 10) + "a10,0;", 21, 2);
        faulty(times("p;", 10) + "g", 20, 3);
        faulty(times("p;", 10) + "q", 20, 1);
        faulty(times("p;", 11), 20, 3);
        faulty("p;" + times("a0,0;", 20) + "b", 102, 3);
        faulty("p;" + times("a0,0;", 20) + "b9,9;", 102, 3);
        faulty("p;" + times("a0,0;", 20) + "p;", 102, 1);
        faulty("p;" + times("a0,0;", 20) + "b0,0;q", 102, 3);
        faulty("p;p;a5,7;q", 5, 2);
        faulty("p;a0,0;\u00ff", 7, 1);
        faulty("\u0000", 0, 1);
    }

    private static void fault() {
        promise = 8;
        AlikeSteps x = new AlikeSteps();
        due(0, x.fault());
        reread(x, "p;");
        due(0, x.fault());
        reread(x, "p;a7,0;");
        due(2, x.fault());
        reread(x, "p;");
        due(2, x.fault());
        reread(x, times("p;", 11));
        due(3, x.fault());
        reread(x, "");
        due(1, x.fault());
    }

    private static void lay() {
        promise = 9;
        AlikeSteps x = read("p;g;a0,1;");
        due(2, x.lay(3, 1, 0));
        due(3, x.arc(1, 0));
        due(1, x.arc(1, 1));
        due(0, x.arc(1, 2));
        due(1, x.moves(0, 1, 3));
        due(BAD, x.lay(-1, 0, 0));
        due(BAD, x.lay(4, 0, 0));
        due(BAD, x.lay(0, -1, 0));
        due(BAD, x.lay(0, 2, 0));
        due(BAD, x.lay(0, 0, 2));
        due(BAD, x.lay(0, 0, MIN));
        due(2, x.count(2));
        for (int n = 3; n <= 20; n++) {
            due(n, x.lay(0, 0, 0));
        }
        due(FULL, x.lay(0, 0, 0));
        due(BAD, x.lay(4, 0, 0));
        due(19, x.count(4));
        due(20, x.count(2));
        due(BAD, new AlikeSteps().lay(0, 0, 0));
    }

    private static void cut() {
        promise = 10;
        AlikeSteps x = read("p;p;t0,0;a0,1;b1,0;");
        due(BAD, x.cut(3));
        due(BAD, x.cut(-1));
        due(BAD, x.cut(MAX));
        due(2, x.cut(1));
        due(0, x.arc(0, 0));
        due(2, x.arc(1, 0));
        due(1, x.arc(1, 1));
        due(BAD, x.arc(2, 0));
        due(0, x.moves(0, 0, 1));
        due(1, x.cut(1));
        due(0, x.cut(0));
        due(BAD, x.cut(0));
        due(3, x.count(4));
    }

    private static void turn() {
        promise = 11;
        AlikeSteps x = read("p;p;p;a0,1;b2,2;");
        due(0, x.turn(0));
        due(1, x.arc(0, 1));
        due(0, x.arc(0, 2));
        due(1, x.arc(0, 0));
        due(0, x.moves(0, 0, 1));
        due(1, x.moves(0, 1, 1));
        due(1, x.turn(0));
        due(2, x.turn(1));
        due(3, x.count(4));
        due(BAD, x.turn(2));
        due(BAD, x.turn(-1));
        due(BAD, x.turn(MIN));
        due(3, x.count(4));
    }

    private static void become() {
        promise = 12;
        AlikeSteps x = read("p;g;a0,1;");
        due(1, x.become(0, 5));
        due(5, x.kind(0));
        due(3, x.count(3));
        due(1, x.moves(0, 1, 1));
        due(5, x.become(0, 3));
        due(0, x.moves(0, 0, 1));
        due(STATE, x.become(0, 3));
        due(2, x.count(4));
        due(BAD, x.become(0, 0));
        due(BAD, x.become(0, 6));
        due(BAD, x.become(2, 1));
        due(BAD, x.become(-1, 1));
        due(3, x.kind(0));
        due(2, x.count(4));
    }

    private static void undo() {
        promise = 13;
        AlikeSteps x = read("p;g;t0,0;a0,1;b1,0;");
        due(STATE, x.undo());
        x.cut(1);
        x.turn(1);
        x.lay(3, 1, 1);
        x.become(1, 4);
        due(4, x.count(4));
        due(3, x.undo());
        due(2, x.kind(1));
        due(2, x.undo());
        due(2, x.count(2));
        due(1, x.undo());
        due(1, x.arc(1, 1));
        due(0, x.undo());
        due(3, x.count(2));
        due(0, x.arc(0, 0));
        due(1, x.arc(1, 0));
        due(0, x.arc(1, 1));
        due(1, x.arc(1, 2));
        due(2, x.arc(2, 0));
        due(STATE, x.undo());
        // of more than 20 the oldest is forgotten
        for (int n = 1; n <= 23; n++) {
            x.turn(1);
            x.become(0, 1 + n % 2);
        }
        due(20, x.count(4));
        for (int left = 19; left >= 0; left--) {
            due(left, x.undo());
        }
        due(STATE, x.undo());
        due(1, x.arc(1, 1));
        AlikeSteps y = read("p;");
        for (int n = 0; n < 20; n++) {
            y.lay(n % 4, 0, 0);
        }
        due(19, y.cut(0));
        due(20, y.count(4));
        due(19, y.undo());
        due(20, y.count(2));
        due(0, y.arc(0, 0));
        due(1, y.arc(1, 0));
        for (int left = 18; left >= 0; left--) {
            due(left, y.undo());
        }
        due(1, y.count(2));
        due(0, y.arc(0, 0));
        due(STATE, y.undo());
        // of acts of all sorts the oldest is forgotten, and the others are undone one by one
        AlikeSteps w = read("p;p;p;a0,1;b2,1;c1,2;");
        w.become(1, 2);
        w.turn(0);
        w.cut(1);
        for (int n = 0; n < 16; n++) {
            w.lay(n % 4, n % 3, 2);
        }
        w.become(0, 3);
        due(20, w.count(4));
        w.become(2, 4);
        due(20, w.count(4));
        due(19, w.undo());
        due(1, w.kind(2));
        due(18, w.undo());
        due(1, w.kind(0));
        for (int left = 17; left >= 2; left--) {
            due(left, w.undo());
        }
        due(2, w.count(2));
        due(1, w.undo());
        due(3, w.count(2));
        due(2, w.arc(1, 0));
        due(2, w.arc(1, 1));
        due(1, w.arc(1, 2));
        due(3, w.arc(2, 0));
        due(0, w.undo());
        due(0, w.arc(0, 1));
        due(1, w.arc(0, 2));
        due(STATE, w.undo());
        // the first of them could not be undone any more; an arc turned back leaves the kinds alone
        due(2, w.kind(1));
        due(1, w.kind(0));
        // what was worked out by then is worked out anew
        AlikeSteps z = read("p;p;a0,1;");
        due(1, z.block(0, 1));
        z.cut(0);
        due(0, z.block(0, 1));
        z.undo();
        due(1, z.block(0, 1));
    }

    private static void arc() {
        promise = 14;
        AlikeSteps x = read("p;p;c0,1;t1,0;");
        due(3, x.arc(0, 0));
        due(0, x.arc(0, 1));
        due(1, x.arc(0, 2));
        due(0, x.arc(1, 0));
        due(BAD, x.arc(0, 3));
        due(BAD, x.arc(0, -1));
        due(BAD, x.arc(2, 0));
        due(BAD, x.arc(-1, 0));
        due(BAD, x.arc(MAX, MIN));
    }

    private static void moves() {
        promise = 15;
        AlikeSteps x = read("p;p;p;p;p;t0,1;a1,2;t2,3;b3,4;");
        due(2, x.moves(0, 0, 0));
        due(0, x.moves(0, 0, 1));
        due(2, x.moves(2, 0, 0));
        due(0, x.moves(2, 0, 1));
        due(3, x.moves(1, 0, 0));
        due(12, x.moves(1, 0, 1));
        due(0, x.moves(1, 0, 2));
        due(12, x.moves(1, 1, 1));
        due(16, x.moves(1, 2, 2));
        due(16, x.moves(1, 4, 0));
        due(BAD, x.moves(3, 0, 0));
        due(BAD, x.moves(-1, 0, 0));
        due(BAD, x.moves(0, 5, 0));
        due(BAD, x.moves(0, -1, 0));
        due(BAD, x.moves(0, 0, 4));
        due(BAD, x.moves(0, 0, -1));
    }

    private static void movesOfDoorsAndTraps() {
        promise = 15;
        AlikeSteps x = read("d;w;p;x;a0,2;b1,2;c0,3;t2,3;a3,2;b0,0;c1,0;");
        due(4, x.moves(0, 0, 1));
        due(1, x.moves(0, 2, 1));
        due(2, x.moves(0, 2, 2));
        due(8, x.moves(0, 0, 3) & 8);
        due(0, x.moves(0, 3, 3));
        due(0, x.moves(0, 3, 1));
        due(8, x.moves(0, 2, 0));
        due(1, x.moves(0, 0, 2));
        due(10, x.moves(0, 0, 3));
        due(1, x.moves(0, 1, 3));
        due(8, x.moves(1, 3, 0));
        // nothing goes back to a trap that is no door
        due(1, x.moves(0, 2, 1));
    }

    private static void block() {
        promise = 16;
        // a chain: by rule 0 each is parted from each other
        AlikeSteps x = read("p;p;p;a0,1;a1,2;");
        for (int s = 0; s < 3; s++) {
            due(s, x.block(0, s));
            due(s, x.block(1, s));
            due(s, x.block(2, s));
            due(0, x.block(3, s));
        }
        // silent steps: the rules differ
        AlikeSteps y = read("p;p;g;t0,1;a1,2;");
        due(1, y.block(0, 1));
        due(0, y.block(1, 1));
        due(0, y.block(2, 1));
        due(0, y.block(3, 1));
        due(2, y.block(0, 2));
        due(1, y.block(1, 2));
        // t.(a + t.b) + b is like a + t.b by rule 1, but rule 2 leaves the like on the way to b
        AlikeSteps z = read("p;p;p;p;t0,1;a1,3;t1,2;b2,3;b0,3;");
        due(0, z.block(1, 1));
        due(1, z.block(2, 1));
        AlikeSteps u = read("p;p;p;p;p;t0,1;a0,4;b1,4;t2,3;a2,4;b3,4;a2,4;");
        due(0, u.block(2, 2));
        due(1, u.block(2, 3));
        AlikeSteps v = read("p;p;p;p;p;p;a0,1;t1,2;b1,5;c2,5;a3,4;t4,2;b4,5;a3,2;");
        // a.(b + t.c) + a.c is like a.(b + t.c) by rule 1, and not by rule 2
        due(0, v.block(1, 3));
        due(3, v.block(2, 3));
        due(1, v.block(1, 4));
        due(1, v.block(2, 4));
        due(BAD, x.block(4, 0));
        due(BAD, x.block(-1, 0));
        due(BAD, x.block(0, 3));
        due(BAD, x.block(0, -1));
    }

    private static void parts() {
        promise = 17;
        AlikeSteps x = read(times("p;", 10) + "a0,1;a1,2;a2,3;a3,4;a4,5;a5,6;a6,7;a7,8;a8,9;");
        due(10, x.parts(0, 0));
        due(9, x.parts(0, 1));
        due(10, x.parts(1, 0));
        due(9, x.parts(2, 1));
        due(1, x.parts(3, 0));
        due(0, x.parts(3, 1));
        x.become(9, 2);
        due(8, x.parts(0, 1));
        due(2, x.parts(3, 0));
        reread(x, "p;p;a0,1;");
        due(1, x.parts(0, 1));
        x.cut(0);
        due(0, x.parts(0, 1));
        due(1, x.parts(0, 0));
        AlikeSteps y = read("p;p;");
        due(1, y.parts(0, 0));
        due(0, y.parts(0, 1));
        due(BAD, y.parts(4, 0));
        due(BAD, y.parts(-1, 0));
        due(BAD, y.parts(0, 2));
        due(BAD, y.parts(0, -1));
        due(STATE, new AlikeSteps().parts(4, 2));
        due(STATE, new AlikeSteps().parts(0, 0));
    }

    private static void behind() {
        promise = 18;
        AlikeSteps x = read("p;p;p;p;a0,1;a1,2;a2,3;");
        int[][] blocks = {{0, 0, 0, 0}, {0, 0, 0, 1}, {0, 0, 1, 2}, {0, 1, 2, 3}};
        for (int n = 0; n <= 20; n++) {
            for (int s = 0; s < 4; s++) {
                due(blocks[Math.min(n, 3)][s], x.behind(0, n, s));
                due(0, x.behind(3, n, s));
            }
        }
        AlikeSteps y = read("g;p;");
        due(0, y.behind(2, 0, 0));
        due(1, y.behind(1, 0, 1));
        due(BAD, x.behind(0, 21, 0));
        due(BAD, x.behind(0, -1, 0));
        due(BAD, x.behind(4, 0, 0));
        due(BAD, x.behind(-1, 0, 0));
        due(BAD, x.behind(0, 0, 4));
        due(BAD, x.behind(0, 0, -1));
    }

    private static void signs() {
        promise = 19;
        AlikeSteps x = read("p;p;g;t0,1;a1,2;c2,0;");
        due(2L, x.signs(0, 0));
        due(1L << 12, x.signs(0, 1));
        due(1L << 30, x.signs(0, 2));
        due(1L | 1L << 11, x.signs(1, 0));
        due(1L | 1L << 11, x.signs(1, 1));
        due(2L | 1L << 30, x.signs(1, 2));
        due(1L << 11, x.signs(2, 0));
        due(1L << 11, x.signs(2, 1));
        due(1L << 30, x.signs(2, 2));
        AlikeSteps y = read(times("p;", 10) + "a0,1;a1,2;a2,3;a3,4;a4,5;a5,6;a6,7;a7,8;a8,9;c8,9;");
        due(1L << 19 | 1L << 39, y.signs(0, 8));
        // nine ROUNDS part any: SIGNS are by the BLOCKS behind the ninth
        AlikeSteps z = read(times("p;", 10) + "a0,1;a1,2;a2,3;a3,4;a4,5;a5,6;a6,7;a7,8;a8,9;");
        due(9, z.parts(0, 1));
        due(1L << 11, z.signs(0, 0));
        due(1L << 12, z.signs(0, 1));
        due(1L << 19, z.signs(0, 8));
        due(BAD, x.signs(3, 0));
        due(BAD, x.signs(-1, 0));
        due(BAD, x.signs(0, 3));
        due(BAD, x.signs(0, -1));
    }

    private static void parted() {
        promise = 20;
        AlikeSteps x = read("p;p;p;g;p;a0,1;a1,2;a2,4;");
        due(NONE, x.parted(0, 0, 0));
        due(0, x.parted(0, 0, 3));
        due(0, x.parted(3, 3, 0));
        due(NONE, x.parted(3, 0, 4));
        due(1, x.parted(0, 0, 4));
        due(2, x.parted(0, 2, 0));
        due(3, x.parted(0, 0, 1));
        due(3, x.parted(1, 1, 0));
        due(3, x.parted(2, 1, 0));
        due(BAD, x.parted(4, 0, 0));
        due(BAD, x.parted(-1, 0, 0));
        due(BAD, x.parted(0, 5, 0));
        due(BAD, x.parted(0, 0, -1));
    }

    private static void told(AlikeSteps x, int rule, int p, int q, int... codes) {
        due(codes.length, x.tells(rule, p, q, -1));
        for (int j = 0; j < codes.length; j++) {
            due(codes[j], x.tells(rule, p, q, j));
        }
        due(NONE, x.tells(rule, p, q, codes.length));
        due(NONE, x.tells(rule, p, q, 9998));
    }

    private static void tells() {
        promise = 21;
        AlikeSteps x = read("p;p;p;g;p;a0,1;a1,2;a2,4;");
        told(x, 0, 3, 0, 30);
        told(x, 0, 0, 3, 20, 30);
        told(x, 0, 0, 4, 1, 10);
        told(x, 0, 4, 0, 20, 1, 10);
        told(x, 0, 1, 2, 1, 11, 1, 10);
        told(x, 0, 2, 1, 1, 11, 20, 1, 10);
        told(x, 0, 0, 1, 1, 11, 1, 11, 1, 10);
        // the least letter, the least state, and of each the second moves to from the least on
        AlikeSteps y = read("p;p;p;g;p;b0,2;b0,3;c0,2;b1,2;b1,4;a4,2;");
        told(y, 0, 0, 1, 2, 12, 30, 30);
        told(y, 0, 1, 0, 20, 2, 12, 30, 30);
        // to STATE 0, and from those it goes to as well
        AlikeSteps w = read("g;p;p;a1,0;a1,1;a2,1;b1,2;b2,2;");
        told(w, 0, 1, 2, 1, 11, 30);
        told(w, 0, 2, 1, 20, 1, 11, 30);
        AlikeSteps v = read("p;p;g;p;g;p;a0,2;a1,0;a1,5;b5,5;a3,4;b3,3;");
        // 0 goes by a to a goal, 1 by a to 0 and to 5, that goes by b; 3 by a to a goal, and by b
        told(v, 0, 0, 1, 1, 12, 30, 30);
        told(v, 0, 1, 0, 1, 11, 20, 30);
        told(v, 0, 3, 0, 2, 10);
        // by rule 1 by what is closed
        AlikeSteps z = read("p;p;g;p;t0,1;a1,2;b3,2;");
        told(z, 1, 0, 3, 1, 10);
        told(z, 1, 3, 0, 2, 10);
        due(NONE, z.tells(1, 0, 1, -1));
        due(NONE, z.tells(1, 0, 1, 0));
        told(z, 0, 0, 1, 0, 10);
        told(z, 0, 1, 0, 1, 10);
        due(NONE, x.tells(0, 2, 2, 5));
        // one that is too long to be counted to its end
        AlikeSteps u = read("d;d;p;p;d;p;d;d;p;p;t0,1;t1,2;a2,3;a3,4;a4,5;a5,6;a6,7;a7,8;a8,9;t0,5;a2,2;a8,2;a0,6;");
        due(9999, u.tells(1, 3, 4, -1));
        due(0, u.tells(1, 3, 4, 9998) == NONE ? 1 : 0);
        Model m = new Model();
        for (char c : "d;d;p;p;d;p;d;d;p;p;t0,1;t1,2;a2,3;a3,4;a4,5;a5,6;a6,7;a7,8;a8,9;t0,5;a2,2;a8,2;a0,6;".toCharArray()) {
            m.feed(c);
        }
        m.system();
        for (int j = 0; j <= 9998; j += 101) {
            due(m.tells(1, 3, 4, j), u.tells(1, 3, 4, j));
        }
        due(m.tells(1, 3, 4, 9998), u.tells(1, 3, 4, 9998));
        due(BAD, x.tells(2, 0, 1, -1));
        due(BAD, x.tells(-1, 0, 1, -1));
        due(BAD, x.tells(0, 5, 1, -1));
        due(BAD, x.tells(0, 0, -1, -1));
        due(BAD, x.tells(0, 0, 1, -2));
        due(BAD, x.tells(0, 0, 1, 9999));
        due(BAD, x.tells(0, 2, 2, 9999));
    }

    private static void depth() {
        promise = 22;
        AlikeSteps x = read("p;p;p;g;p;a0,1;a1,2;a2,4;");
        due(0, x.depth(0, 3, 0));
        due(0, x.depth(1, 0, 3));
        due(1, x.depth(0, 0, 4));
        due(1, x.depth(0, 4, 0));
        due(2, x.depth(0, 1, 2));
        due(3, x.depth(0, 0, 1));
        due(3, x.depth(1, 1, 0));
        due(NONE, x.depth(0, 1, 1));
        AlikeSteps y = read("p;p;p;t0,1;a1,2;");
        due(NONE, y.depth(1, 0, 1));
        due(1, y.depth(0, 0, 1));
        due(BAD, x.depth(2, 0, 1));
        due(BAD, x.depth(-1, 0, 1));
        due(BAD, x.depth(0, 5, 1));
        due(BAD, x.depth(0, 1, 5));
    }

    private static void formula(AlikeSteps x, int want, int rule, int state, int... codes) {
        fill(x, 0, 0, codes);
        due(want, x.holds(rule, state, 0, codes.length));
        due(0, x.status());
    }

    private static void holds() {
        promise = 23;
        AlikeSteps x = read("p;p;g;t0,1;a1,2;a1,0;");
        formula(x, 0, 0, 0, 30);
        formula(x, 1, 0, 2, 30);
        formula(x, 1, 0, 0, 20, 30);
        formula(x, 0, 0, 0, 1, 10);
        formula(x, 1, 1, 0, 1, 10);
        formula(x, 1, 0, 1, 1, 11, 30);
        formula(x, 1, 0, 1, 1, 11, 20, 30);
        // all of the list of one and the same state
        formula(x, 0, 0, 1, 1, 12, 30, 20, 30);
        formula(x, 1, 0, 1, 1, 12, 20, 30, 0, 10);
        formula(x, 1, 0, 0, 0, 11, 1, 11, 0, 11, 1, 11, 30);
        formula(x, 1, 1, 2, 0, 11, 30);
        formula(x, 0, 0, 2, 0, 10);
        formula(x, 1, 0, 1, 1, 19, 30, 30, 30, 30, 30, 30, 30, 30, 30);
        int[] deep = new int[30];
        java.util.Arrays.fill(deep, 20);
        deep[29] = 30;
        formula(x, 0, 0, 2, deep);
        // not just one formula
        formula(x, NONE, 0, 0, 20);
        formula(x, NONE, 0, 0, 1);
        formula(x, NONE, 0, 0, 10);
        formula(x, NONE, 0, 0, 30, 30);
        formula(x, NONE, 0, 0, 1, 30);
        formula(x, NONE, 0, 0, 1, 11);
        formula(x, NONE, 0, 0, 1, 12, 30);
        formula(x, NONE, 0, 0, 1, 10, 30);
        formula(x, NONE, 0, 0, 20, 10);
        formula(x, NONE, 0, 0, 1, 1, 10);
        formula(x, NONE, 0, 0, 10, 1, 10);
        formula(x, NONE, 0, 0, 1, 11, 10);
        formula(x, NONE, 0, 0, 12, 30);
        formula(x, NONE, 0, 0, 4, 10);
        formula(x, NONE, 0, 0, 29);
        formula(x, NONE, 0, 0, 21, 30);
        formula(x, NONE, 0, 0, 31);
        formula(x, NONE, 0, 0, -1, 10);
        formula(x, NONE, 0, 0, 30, 20);
        fill(x, 0, 2, 30, 77);
        due(1, x.holds(0, 2, 0, 1));
        due(PLACE, x.holds(0, 2, 0, 3));
        due(2, x.status());
        due(NULL, x.holds(0, 2, 1, 30));
        due(1, x.status());
        due(BAD, x.holds(2, 2, 0, 1));
        due(BAD, x.holds(-1, 2, 0, 1));
        due(BAD, x.holds(0, 3, 0, 1));
        due(BAD, x.holds(0, -1, 0, 1));
        due(BAD, x.holds(0, 2, 8, 1));
        due(BAD, x.holds(0, 2, -1, 1));
        due(BAD, x.holds(0, 2, 0, 0));
        due(BAD, x.holds(0, 2, 0, 31));
        due(BAD, x.holds(0, 2, 1, 31));
        due(1, x.status());
    }

    private static void small() {
        promise = 24;
        AlikeSteps x = read("p;p;p;g;t0,1;t1,0;a0,3;a1,3;b2,2;t2,0;t3,3;");
        // rule 0: {0, 1}, {2}, {3}
        due(1, x.small(0, 0, 0));
        due(4, x.small(0, 0, 1));
        due(0, x.small(0, 0, 2));
        due(1, x.small(0, 1, 0));
        due(2, x.small(0, 1, 2));
        due(4, x.small(0, 2, 0));
        due(0, x.small(1, 0, 0));
        due(4, x.small(1, 0, 1));
        due(1, x.small(1, 1, 0));
        due(0, x.small(1, 1, 1));
        due(0, x.small(2, 2, 0));
        due(BAD, x.small(3, 0, 0));
        due(BAD, x.small(-1, 0, 0));
        due(BAD, x.small(0, 3, 0));
        due(BAD, x.small(0, -1, 0));
        due(BAD, x.small(0, 0, 4));
        due(BAD, x.small(0, 0, -1));
        // from any state of a block: 0 goes by t alone, 1 by a alone, and they are alike by rule 1
        AlikeSteps y = read("p;p;g;t0,1;a1,2;");
        due(0, y.small(1, 0, 0));
        due(2, y.small(1, 0, 1));
        due(BAD, y.small(1, 2, 0));
        AlikeSteps z = read("p;p;g;t1,0;a0,2;c2,2;");
        due(2, z.small(1, 0, 1));
        due(2, z.small(2, 0, 1));
        due(2, z.small(1, 1, 3));
        due(1, read("p;b0,0;").small(0, 0, 2));
        due(BAD, read("p;b0,0;").small(0, 1, 2));
        AlikeSteps u = read("p;p;p;t0,1;t1,0;a0,2;b1,2;");
        // 0 and 1 go to one another by silent ones, so rules 1 and 2 have them alike
        due(2, u.small(1, 0, 1));
        due(2, u.small(1, 0, 2));
        due(2, u.small(2, 0, 1));
        due(2, u.small(2, 0, 2));
    }

    private static void arcs() {
        promise = 25;
        AlikeSteps x = read("p;p;p;g;t0,1;t1,0;a0,3;a1,3;b2,2;t2,0;t3,3;");
        due(5, x.arcs(0));
        due(3, x.arcs(1));
        due(3, x.arcs(2));
        due(BAD, x.arcs(3));
        due(BAD, x.arcs(-1));
        due(0, read("p;").arcs(0));
        due(STATE, new AlikeSteps().arcs(0));
        due(STATE, new AlikeSteps().arcs(3));
    }

    private static void words() {
        promise = 26;
        AlikeSteps x = read("p;a0,0;b0,0;c0,0;");
        int rows = 1;
        for (int n = 0; n <= 6; n++) {
            due(rows, x.words(0, n));
            rows *= 3;
        }
        // rows of letters, not ways: two ways by the same letters count once
        AlikeSteps y = read("p;p;p;p;a0,1;a0,2;b1,3;b2,3;t3,0;c2,3;");
        due(1, y.words(0, 0));
        due(1, y.words(0, 1));
        due(2, y.words(0, 2));
        due(2, y.words(0, 3));
        due(4, y.words(0, 4));
        due(0, read("x;a0,0;").words(0, 1));
        due(1, read("x;a0,0;").words(0, 0));
        due(0, read("p;t0,0;").words(0, 1));
        due(BAD, x.words(0, 7));
        due(BAD, x.words(0, -1));
        due(BAD, x.words(1, 0));
        due(BAD, x.words(-1, 0));
    }

    private static void walk() {
        promise = 27;
        // X becomes 16807, then 282475249, then 1622650073
        AlikeSteps x = read("p;p;p;p;p;p;p;t0,1;t0,2;a0,3;a0,2;a0,2;b0,5;t0,6;a4,0;a2,4;b2,5;b5,2;");
        due(0, x.walk(0, 0, 1));
        // of 0: t1 t2 t6 a2 a3 b5, six; 16807 modulo 6 is 1: STATE 2
        due(2, x.walk(0, 1, 1));
        // of 2: a4 b5; 282475249 modulo 2 is 1: STATE 5
        due(5, x.walk(0, 2, 1));
        // of 5: b2 alone
        due(2, x.walk(0, 3, 1));
        // 33614 modulo 6 is 2: STATE 6, from where one goes nowhere
        due(6, x.walk(0, 1, 2));
        due(6, x.walk(0, 60, 2));
        // 999999 times 16807 is 16806983193, less 7 times 2147483647: 1774597664, modulo 6 is 2
        due(6, x.walk(0, 1, 999999));
        due(1, x.walk(1, 60, 7));
        due(0, read("p;p;a1,0;").walk(1, 1, 5));
        // of 1: t0 a0 a1 b0; 16807 modulo 4 is 3
        due(0, read("p;p;a1,0;a1,1;b1,0;t1,0;").walk(1, 1, 1));
        due(BAD, x.walk(0, 61, 1));
        due(BAD, x.walk(0, -1, 1));
        due(BAD, x.walk(0, 1, 0));
        due(BAD, x.walk(0, 1, 1000000));
        due(BAD, x.walk(7, 1, 1));
        due(BAD, x.walk(-1, 1, 1));
    }

    private static void fits() {
        promise = 28;
        AlikeSteps x = read("p;p;p;a0,1;b2,1;");
        // all three apart: 0 goes by a, 2 by b, 1 nowhere
        fill(x, 0, 0, 0, 1, 2);
        due(1 | 2 | 8, x.fits(0, 0, 0, 0));
        // 0 and 2 alike: the letter must be b
        fill(x, 1, 1, 0, 1, 0, 99);
        due(4, x.fits(0, 0, 1, 0));
        due(0, x.fits(0, 0, 1, 1));
        // froms: from 0; from 1 gives 0 dead, 1 by a to itself, 2 by b to 1: three apart, too
        due(1 | 2, x.fits(0, 0, 0, 1));
        due(7, x.fits(0, 0, 0, 2));
        // numbers that are not those of the blocks
        fill(x, 2, 2, 0, 2, 1);
        due(0, x.fits(0, 0, 2, 0));
        fill(x, 2, 2, 3, 1, 2);
        due(0, x.fits(0, 0, 2, 0));
        fill(x, 2, 2, 5, 6, 7);
        due(0, x.fits(0, 0, 2, 0));
        // by rules 1 and 2 a silent arc from 0 to 1 makes these alike
        fill(x, 3, 2, 0, 0, 1);
        due(1, x.fits(1, 0, 3, 0));
        due(1, x.fits(2, 0, 3, 0));
        due(0, x.fits(0, 0, 3, 0));
        // the system itself is as it was
        due(1, x.arc(0, 0));
        due(0, x.count(4));
        due(1, x.block(0, 1));
        due(PLACE, fitsOfShortRow());
        due(NULL, x.fits(0, 0, 5, 0));
        x.row(4, 0, 2);
        due(PLACE, x.fits(0, 0, 4, 0));
        due(BAD, x.fits(3, 0, 5, 0));
        due(BAD, x.fits(-1, 0, 0, 0));
        due(BAD, x.fits(0, 2, 0, 0));
        due(BAD, x.fits(0, -1, 0, 0));
        due(BAD, x.fits(0, 0, 8, 0));
        due(BAD, x.fits(0, 0, -1, 0));
        due(BAD, x.fits(0, 0, 0, 3));
        due(BAD, x.fits(0, 0, 0, -1));
    }

    private static int fitsOfShortRow() {
        AlikeSteps x = read("p;a0,0;");
        x.row(0, 0, 0);
        return x.fits(0, 0, 0, 0);
    }

    private static void image() {
        promise = 29;
        AlikeSteps x = new AlikeSteps();
        due(STATE, x.image(0));
        due(BAD, x.image(2));
        due(BAD, x.image(-1));
        reread(x, "p;g;a0,1;");
        x.lay(1, 1, 1);
        due(1, x.image(0));
        due(1, x.count(4));
        // what comes later does not reach the image
        x.lay(2, 0, 0);
        x.become(0, 5);
        due(1, x.image(1));
        reread(x, "x;");
        due(1, x.restore(0));
        due(2, x.count(1));
        due(2, x.count(2));
        due(1, x.kind(0));
        due(1, x.restore(1));
        due(3, x.count(2));
        due(5, x.kind(0));
        // a later image stands in place of the one before
        reread(x, "x;");
        due(1, x.image(0));
        reread(x, "p;p;p;");
        due(1, x.restore(0));
        due(3, x.kind(0));
        due(1, x.count(1));
    }

    private static void restore() {
        promise = 30;
        AlikeSteps x = read("p;g;a0,1;");
        due(STATE, x.restore(0));
        due(BAD, x.restore(2));
        due(BAD, x.restore(-1));
        x.image(1);
        due(STATE, x.restore(0));
        x.cut(0);
        x.become(1, 1);
        due(0, x.block(0, 1));
        due(1, x.restore(1));
        due(0, x.count(4));
        due(STATE, x.undo());
        due(1, x.count(2));
        due(2, x.kind(1));
        due(1, x.block(0, 1));
        // what changes behind it does not reach the image
        x.cut(0);
        due(1, x.restore(1));
        due(1, x.count(2));
        due(STATE, x.restore(0));
    }

    private static void kind() {
        promise = 31;
        AlikeSteps x = read("w;d;x;g;p;");
        for (int s = 0; s < 5; s++) {
            due(5 - s, x.kind(s));
        }
        due(BAD, x.kind(5));
        due(BAD, x.kind(-1));
        due(BAD, x.kind(MIN));
    }

    private static void as() {
        promise = 32;
        AlikeSteps x = read("p;g;x;d;w;");
        int[] are = {0b000011, 0b000111, 0b001011, 0b010001, 0b110001};
        for (int s = 0; s < 5; s++) {
            for (int kind = 0; kind < 6; kind++) {
                boolean is = (are[s] >> kind & 1) != 0;
                due(is ? s : KIND, x.as(s, kind));
                due(is ? 0 : 3, x.status());
            }
        }
        due(BAD, x.as(0, 6));
        due(BAD, x.as(0, -1));
        due(BAD, x.as(5, 0));
        due(BAD, x.as(-1, 0));
    }

    private static void asked(AlikeSteps x, int state, int what, int want, int... bodies) {
        due(want, x.ask(state, what));
        for (int i = 0; i < bodies.length; i++) {
            due(bodies[i], x.trace(i));
        }
        due(NONE, x.trace(bodies.length));
    }

    private static void ask() {
        promise = 33;
        // of pairs: 0 a1 b1 (twice told, once counted); 3 t4; 4 t3 c0; 0 c4
        AlikeSteps x = read("p;g;x;d;w;a0,1;b0,1;b0,1;t3,4;c4,0;a2,0;");
        // blocks by rule 0 are 0 1 2 3 4
        due(5, x.parts(0, 0));
        asked(x, 0, 0, 3 + 0, 11, 10, 21, 20);
        asked(x, 0, 1, 0, 21, 20);
        asked(x, 1, 0, -4, 12, 11, 10, 24, 21, 20);
        asked(x, 1, 1, 4, 24, 21, 20);
        asked(x, 2, 0, 0 + 4 - 1000, 11, 10, 22, 21, 20);
        asked(x, 2, 1, 4 - 1000, 22, 21, 20);
        asked(x, 3, 0, 1 - 100, 13, 10);
        asked(x, 3, 1, 3 + 99, 23, 20, 13, 10);
        asked(x, 4, 0, 2 * (2 - 100), 14, 13, 10);
        asked(x, 4, 1, 4 + 196, 23, 20, 14, 13, 10);
        due(BAD, x.ask(5, 0));
        due(BAD, x.ask(-1, 0));
        due(BAD, x.ask(0, 2));
        due(BAD, x.ask(0, -1));
        // what is refused leaves THE TRACE as it was
        due(23, x.trace(0));
        // the block is the one of rule 0
        AlikeSteps y = read("p;p;t0,1;");
        due(1 + 1, y.ask(1, 1));
    }

    private static void trace() {
        promise = 34;
        AlikeSteps x = read("g;");
        due(NONE, x.trace(0));
        x.ask(0, 0);
        due(12, x.trace(0));
        due(20, x.trace(5));
        due(NONE, x.trace(6));
        due(NONE, x.trace(-1));
        due(NONE, x.trace(16));
        due(NONE, x.trace(MAX));
        due(NONE, x.trace(MIN));
        x.ask(0, 1);
        due(24, x.trace(0));
        due(NONE, x.trace(3));
        reread(x, "p;");
        due(24, x.trace(0));
    }

    private static void count() {
        promise = 35;
        AlikeSteps x = read("p;g;w;x;d;a0,1;");
        x.row(5, 0, 0);
        x.lay(0, 0, 0);
        x.lay(0, 0, 0);
        x.feed(' ');
        due(1, x.count(0));
        due(5, x.count(1));
        due(3, x.count(2));
        due(6, x.count(3));
        due(2, x.count(4));
        due(1, x.count(5));
        due(BAD, x.count(6));
        due(BAD, x.count(-1));
        due(BAD, x.count(MIN));
    }

    private static void status() {
        promise = 36;
        AlikeSteps x = read("p;g;a0,1;");
        due(0, x.status());
        x.row(0, 0, -5);
        due(4, x.status());
        // these are BAD, STATE, FULL, or have no ROW
        x.row(9, 0, 0);
        x.set(-1, 0, 0);
        x.copy(0, 0, 8, 0, 0);
        x.drop(8);
        x.fits(0, 7, 0, 0);
        x.holds(5, 0, 0, 1);
        x.as(7, 0);
        x.undo();
        x.lay(0, 0, 0);
        x.ask(0, 0);
        x.count(0);
        due(4, x.status());
        x.row(0, 0, 3);
        due(0, x.status());
        x.set(0, 3, 0);
        due(2, x.status());
        x.set(0, 2, 0);
        due(0, x.status());
        x.drop(1);
        due(1, x.status());
        x.copy(0, 0, 0, 0, 3);
        due(0, x.status());
        x.row(1, 1, 3);
        x.copy(0, 0, 1, 0, 3);
        due(5, x.status());
        x.fits(0, 0, 0, 0);
        due(0, x.status());
        x.as(0, 4);
        due(3, x.status());
        x.holds(0, 0, 0, 1);
        due(0, x.status());
        x.holds(0, 0, 0, 4);
        due(2, x.status());
        x.drop(0);
        due(0, x.status());
        x.fits(0, 0, 0, 0);
        due(1, x.status());
        x.as(0, 1);
        due(0, x.status());
    }
}
