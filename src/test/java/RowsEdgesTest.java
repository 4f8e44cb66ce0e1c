/** Boundary cases of promises 1 to 5, of ROWS, and of refusals and FINDINGS at large. */
public final class RowsEdgesTest extends Edges {

    public static void main(String[] args) throws Exception {
        run(RowsEdgesTest.class, 1, 5);
    }

    /** In a system of one state its block is 0: so a row that begins with 0, and no other, fits. */
    private static boolean beginsWith0(AlikeSteps x, int row) {
        return x.fits(0, 0, row, 0) == 15;
    }

    /** By way of ROW 7, that must be of the same lane. */
    private static boolean is0(AlikeSteps x, int row, int i) {
        return x.copy(row, i, 7, 0, 1) == 1 && beginsWith0(x, 7);
    }

    /** A row of the code 30 alone is a formula; no other code is one by itself. */
    private static boolean is30(AlikeSteps x, int row, int i) {
        return x.copy(row, i, 7, 0, 1) == 1 && x.holds(0, 0, 7, 1) != NONE;
    }

    // ---- refusals

    @Says(in = "Terms", words = "the first of these that fits, but as told: BAD (a number is not as told; there is no such thing), STATE (as told)")
    static void badComesAheadOfState() {
        AlikeSteps x = new AlikeSteps();
        due(BAD, x.image(2));
        due(STATE, x.image(1));
        due(BAD, x.restore(2));
        due(STATE, x.restore(1));
        reread(x, "p;");
        due(BAD, x.become(1, 1));
        due(STATE, x.become(0, 1));
    }

    @Says(in = "Terms", words = "STATE (as told), FULL (as told), then FINDINGS")
    static void badComesAheadOfFull() {
        AlikeSteps x = read("p;");
        for (int n = 0; n < 20; n++) {
            x.lay(0, 0, 0);
        }
        due(BAD, x.lay(4, 0, 0));
        due(BAD, x.lay(0, 1, 0));
        due(BAD, x.lay(0, 0, 1));
        due(FULL, x.lay(0, 0, 0));
        for (int n = 0; n < 140; n++) {
            x.feed('p');
        }
        due(BAD, x.feed(256));
        due(BAD, x.feed(-1));
        due(FULL, x.feed(255));
    }

    @Says(in = "Terms", words = "then FINDINGS")
    static void badComesAheadOfFindings() {
        AlikeSteps x = read("p;a0,0;");
        due(BAD, x.row(8, 0, -1));
        due(BAD, x.row(0, 3, -1));
        due(SIZE, x.row(0, 2, -1));
        due(BAD, x.copy(0, 0, 8, 0, 0));
        due(BAD, x.copy(8, 0, 0, 0, 0));
        due(NULL, x.copy(0, 0, 1, 0, 0));
        due(BAD, x.holds(2, 0, 0, 1));
        due(BAD, x.holds(0, 1, 0, 1));
        due(BAD, x.holds(0, 0, 0, 31));
        due(NULL, x.holds(0, 0, 0, 30));
        due(BAD, x.fits(3, 0, 0, 0));
        due(BAD, x.fits(0, 1, 0, 0));
        due(BAD, x.fits(0, 0, 0, 3));
        due(NULL, x.fits(0, 0, 0, 2));
        due(BAD, x.as(0, 6));
        due(BAD, x.as(1, 5));
        due(KIND, x.as(0, 5));
    }

    @Says(in = "Terms", words = "of several the first in time")
    static void ofSeveralFindingsTheFirst() {
        AlikeSteps x = read("p;a0,0;");
        due(NULL, x.set(0, -1, 0));
        due(NULL, x.set(0, 40, 0));
        due(NULL, x.holds(0, 0, 0, 30));
        due(NULL, x.fits(0, 0, 0, 0));
        x.row(1, 0, 1);
        x.row(2, 1, 1);
        due(NULL, x.copy(0, -1, 1, -1, -1));
        due(NULL, x.copy(1, -1, 0, -1, -1));
        due(STORE, x.copy(1, -1, 2, -1, -1));
        due(STORE, x.copy(1, 2, 2, 0, 0));
        due(PLACE, x.copy(1, 2, 1, 0, 0));
    }

    @Says(in = "Terms", words = "-1000010 less 1 NULL (a ROW that is missing)")
    static void nullIsTheFirstFinding() {
        AlikeSteps x = new AlikeSteps();
        due(-1000011, x.drop(0));
        due(1, x.status());
    }

    @Says(in = "Terms", words = "2 PLACE (no such place of a ROW)")
    static void placeIsTheSecond() {
        AlikeSteps x = new AlikeSteps();
        x.row(0, 0, 0);
        due(-1000012, x.set(0, 0, 0));
        due(2, x.status());
    }

    @Says(in = "Terms", words = "3 KIND (a STATE that is not that)")
    static void kindIsTheThird() {
        AlikeSteps x = read("p;");
        due(-1000013, x.as(0, 2));
        due(3, x.status());
    }

    @Says(in = "Terms", words = "4 SIZE (fewer than none)")
    static void sizeIsTheFourth() {
        AlikeSteps x = new AlikeSteps();
        due(-1000014, x.row(0, 0, -1));
        due(4, x.status());
        due(0, x.row(0, 0, 0));
    }

    @Says(in = "Terms", words = "5 STORE (ROWS of two LANES)")
    static void storeIsTheFifth() {
        AlikeSteps x = new AlikeSteps();
        for (int a = 0; a < 3; a++) {
            x.row(a, a, 1);
            x.row(a + 3, a, 1);
        }
        for (int a = 0; a < 3; a++) {
            for (int b = 0; b < 6; b++) {
                boolean alike = a == b % 3;
                due(alike ? 1 : -1000015, x.copy(a, 0, b, 0, 1));
                due(alike ? 0 : 5, x.status());
            }
        }
    }

    @Says(in = "Terms", words = "What is refused, or found, changes nothing but status().")
    static void whatIsRefusedChangesNothing() {
        AlikeSteps x = read("p;g;a0,1;b1,0;");
        x.lay(3, 0, 0);
        x.ask(1, 0);
        x.feed('p');
        fill(x, 0, 0, 30, 30);
        x.row(1, 1, 1);
        String was = picture(x);
        refuseRowsAndAsked(x);
        refuseActs(x);
        same(was, picture(x));
        due(1, x.holds(0, 1, 0, 1));
        due(2, x.drop(0));
        due(1, x.drop(1));
        due(0, x.undo());
        due(STATE, x.restore(0));
        due(STATE, x.restore(1));
    }

    private static void refuseRowsAndAsked(AlikeSteps x) {
        int[] answers = {x.row(0, 0, 41), x.row(0, 3, 1), x.row(0, 1, -1), x.row(2, 1, -1), x.set(0, 2, 7),
            x.set(0, -1, 7), x.set(2, 0, 7), x.copy(1, 0, 0, 0, 1), x.copy(0, 0, 0, 1, 2), x.copy(2, 0, 0, 0, 1),
            x.drop(2), x.drop(8), x.holds(0, 0, 0, 3), x.holds(0, 0, 2, 1), x.fits(0, 0, 1, 0), x.fits(0, 0, 2, 0),
            x.fits(0, 3, 0, 0), x.as(0, 2), x.as(2, 0), x.ask(2, 0), x.ask(0, 2), x.count(6), x.kind(2)};
        for (int answer : answers) {
            due(1, answer <= BAD ? 1 : 0);
        }
    }

    private static void refuseActs(AlikeSteps x) {
        int[] answers = {x.feed(256), x.feed(-1), x.lay(4, 0, 0), x.lay(0, 2, 0), x.lay(0, 0, -1), x.cut(3),
            x.cut(-1), x.turn(3), x.turn(-1), x.become(0, 1), x.become(0, 6), x.become(2, 1), x.arc(3, 0),
            x.moves(3, 0, 0), x.block(4, 0), x.parts(4, 0), x.behind(0, 21, 0), (int) x.signs(3, 0),
            x.parted(0, 0, 2), x.tells(2, 0, 1, 0), x.depth(2, 0, 1), x.small(0, 2, 0), x.arcs(3), x.words(0, 7),
            x.walk(0, 61, 1), x.image(2), x.restore(2), x.restore(0)};
        for (int answer : answers) {
            due(1, answer <= BAD ? 1 : 0);
        }
    }

    // ---- the terms of ROWS

    @Says(in = "Terms", words = "ROWS 0 .. 7 are missing (at first)")
    static void rowsAreMissingAtFirst() {
        AlikeSteps x = new AlikeSteps();
        due(0, x.count(0));
        for (int row = 0; row < 8; row++) {
            due(NULL, x.drop(row));
            due(NULL, x.set(row, 0, 0));
        }
        for (int row = 0; row < 8; row++) {
            due(1, x.row(row, 0, 1));
            due(row + 1, x.count(0));
        }
    }

    @Says(in = "Terms", words = "or have a LANE (0 bytes, 1 shorts, 2 ints)")
    static void lanesHaveTheirBits() {
        AlikeSteps x = new AlikeSteps();
        for (int lane = 0; lane < 3; lane++) {
            x.row(lane, lane, 1);
        }
        int[][] bytes = {{127, 127}, {128, -128}, {255, -1}, {256, 0}, {-128, -128}, {-129, 127}, {MIN, 0}, {MAX, -1}};
        int[][] shorts = {{32767, 32767}, {32768, -32768}, {65535, -1}, {65536, 0}, {-32768, -32768},
            {-32769, 32767}, {MIN, 0}, {MAX, -1}, {128, 128}};
        int[][] ints = {{MIN, MIN}, {MAX, MAX}, {32768, 32768}, {-32769, -32769}, {-1, -1}, {65536, 65536}};
        int[][][] all = {bytes, shorts, ints};
        for (int lane = 0; lane < 3; lane++) {
            for (int[] pair : all[lane]) {
                due(pair[1], x.set(lane, 0, pair[0]));
            }
        }
    }

    @Says(in = "Terms", words = "0 to 40 ITEMS")
    static void rowsHave0To40Items() {
        AlikeSteps x = new AlikeSteps();
        for (int lane = 0; lane < 3; lane++) {
            due(0, x.row(lane, lane, 0));
            due(PLACE, x.set(lane, 0, 1));
            due(0, x.drop(lane));
            due(40, x.row(lane, lane, 40));
            due(1, x.set(lane, 39, 1));
            due(PLACE, x.set(lane, 40, 1));
            due(40, x.drop(lane));
        }
    }

    @Says(in = "Terms", words = "ITEMS, 0 at first")
    static void itemsAre0AtFirst() {
        AlikeSteps x = read("p;t0,0;");
        for (int lane = 0; lane < 3; lane++) {
            x.row(7, lane, 1);
            x.row(lane, lane, 40);
            for (int i = 0; i < 40; i++) {
                due(1, is0(x, lane, i) ? 1 : 0);
            }
            x.set(lane, 39, 1);
            due(0, is0(x, lane, 39) ? 1 : 0);
        }
    }

    // ---- promise 1

    @Says(in = "Promise 1", words = "No SYSTEM.")
    static void aNewObjectHasNoSystem() {
        AlikeSteps x = new AlikeSteps();
        for (int what = 0; what <= 5; what++) {
            due(0, x.count(what));
        }
        int[] bad = {x.lay(0, 0, 0), x.cut(0), x.turn(0), x.become(0, 1), x.arc(0, 0), x.moves(0, 0, 0),
            x.block(0, 0), x.behind(0, 0, 0), (int) x.signs(0, 0), x.parted(0, 0, 0), x.tells(0, 0, 0, -1),
            x.depth(0, 0, 0), x.holds(0, 0, 0, 1), x.small(0, 0, 0), x.words(0, 0), x.walk(0, 0, 1),
            x.fits(0, 0, 0, 0), x.kind(0), x.as(0, 0), x.ask(0, 0)};
        for (int answer : bad) {
            due(BAD, answer);
        }
        int[] state = {x.undo(), x.parts(0, 0), x.arcs(0), x.image(0), x.restore(0)};
        for (int answer : state) {
            due(STATE, answer);
        }
        due(0, x.status());
        due(0, x.fault());
        due(NONE, x.trace(0));
    }

    // ---- promise 2

    @Says(in = "Promise 2", words = "A ROW of a LANE with n ITEMS, in place of what is there: n.")
    static void aRowComesInPlaceOfAnother() {
        AlikeSteps x = read("p;t0,0;");
        fill(x, 0, 2, 30, 30, 30, 30, 30);
        due(1, x.row(0, 2, 1));
        due(PLACE, x.set(0, 1, 0));
        due(5, x.row(0, 2, 5));
        x.row(7, 2, 1);
        for (int i = 0; i < 5; i++) {
            due(1, is0(x, 0, i) ? 1 : 0);
        }
        due(2, x.count(0));
        due(2, x.row(0, 0, 2));
        due(44, x.set(0, 1, 300));
        due(2, x.row(0, 1, 2));
        due(300, x.set(0, 1, 300));
    }

    @Says(in = "Promise 2", words = "BAD: ROW,")
    static void rowOfNoSuchRow() {
        AlikeSteps x = new AlikeSteps();
        for (int row : new int[] {-1, 8, 9, MIN, MAX}) {
            due(BAD, x.row(row, 0, 1));
        }
        due(1, x.row(0, 0, 1));
        due(1, x.row(7, 0, 1));
        due(2, x.count(0));
    }

    @Says(in = "Promise 2", words = "LANE, n above 40")
    static void rowOfNoSuchLane() {
        AlikeSteps x = new AlikeSteps();
        for (int lane : new int[] {-1, 3, 4, MIN, MAX}) {
            due(BAD, x.row(0, lane, 1));
        }
        due(0, x.count(0));
        due(1, x.row(0, 0, 1));
        due(1, x.row(0, 2, 1));
    }

    @Says(in = "Promise 2", words = "n above 40")
    static void rowOfMoreThan40() {
        AlikeSteps x = new AlikeSteps();
        due(BAD, x.row(0, 0, 41));
        due(BAD, x.row(0, 0, MAX));
        due(0, x.count(0));
        due(40, x.row(0, 0, 40));
    }

    @Says(in = "Promise 2", words = "n above 40; SIZE.")
    static void rowOfFewerThanNone() {
        AlikeSteps x = new AlikeSteps();
        due(SIZE, x.row(0, 0, -1));
        due(SIZE, x.row(7, 2, MIN));
        due(0, x.count(0));
        x.row(0, 0, 3);
        due(SIZE, x.row(0, 1, -1));
        due(44, x.set(0, 2, 300));
        due(0, x.row(1, 0, 0));
    }

    // ---- promise 3

    @Says(in = "Promise 3", words = "ITEM i becomes v, its lowest bits, as many as the LANE has: what it is then.")
    static void theItemIsWhatSetAnswers() {
        AlikeSteps x = read("p;t0,0;");
        x.row(0, 0, 3);
        x.row(7, 0, 1);
        due(30, x.set(0, 0, 256 + 30));
        due(30, x.set(0, 2, 30 - 256));
        due(1, is30(x, 0, 0) ? 1 : 0);
        due(1, is0(x, 0, 1) ? 1 : 0);
        due(1, is30(x, 0, 2) ? 1 : 0);
        x.row(0, 1, 1);
        x.row(7, 1, 1);
        due(286, x.set(0, 0, 286));
        due(0, is30(x, 0, 0) ? 1 : 0);
        due(30, x.set(0, 0, 65536 + 30));
        due(1, is30(x, 0, 0) ? 1 : 0);
        x.row(0, 2, 1);
        x.row(7, 2, 1);
        due(65566, x.set(0, 0, 65566));
        due(0, is30(x, 0, 0) ? 1 : 0);
    }

    @Says(in = "Promise 3", words = "BAD: ROW;")
    static void setOfNoSuchRow() {
        AlikeSteps x = new AlikeSteps();
        for (int row : new int[] {-1, 8, MIN, MAX}) {
            due(BAD, x.set(row, 0, 0));
        }
        x.row(0, 0, 1);
        x.row(7, 0, 1);
        due(5, x.set(0, 0, 5));
        due(5, x.set(7, 0, 5));
    }

    @Says(in = "Promise 3", words = "NULL;")
    static void setOfAMissingRow() {
        AlikeSteps x = new AlikeSteps();
        due(NULL, x.set(0, 0, 0));
        due(NULL, x.set(7, 0, 0));
        x.row(3, 0, 4);
        x.drop(3);
        due(NULL, x.set(3, 0, 0));
    }

    @Says(in = "Promise 3", words = "NULL; PLACE.")
    static void setOfNoSuchPlace() {
        AlikeSteps x = new AlikeSteps();
        x.row(0, 2, 3);
        for (int i : new int[] {-1, 3, 4, 39, 40, MIN, MAX}) {
            due(PLACE, x.set(0, i, 1));
        }
        due(1, x.set(0, 0, 1));
        due(1, x.set(0, 2, 1));
        x.row(1, 0, 0);
        due(PLACE, x.set(1, 0, 1));
    }

    // ---- promise 4

    @Says(in = "Promise 4", words = "n ITEMS of a from i on come to b from j on")
    static void copyOfSomeOfAll() {
        AlikeSteps x = read("p;t0,0;");
        fill(x, 0, 0, 30, 0, 30, 0);
        x.row(1, 0, 4);
        x.row(7, 0, 1);
        due(2, x.copy(0, 2, 1, 1, 2));
        int[] then = {0, 30, 0, 0};
        for (int i = 0; i < 4; i++) {
            due(then[i] == 30 ? 1 : 0, is30(x, 1, i) ? 1 : 0);
            due(then[i] == 0 ? 1 : 0, is0(x, 1, i) ? 1 : 0);
        }
        x.row(2, 0, 40);
        x.set(2, 39, 30);
        x.row(3, 0, 40);
        due(40, x.copy(2, 0, 3, 0, 40));
        due(1, is30(x, 3, 39) ? 1 : 0);
        due(1, is0(x, 3, 38) ? 1 : 0);
    }

    @Says(in = "Promise 4", words = "as they were ahead: n.")
    static void copyWithinARowTakesThemAsTheyWere() {
        AlikeSteps x = read("p;t0,0;");
        x.row(7, 1, 1);
        fill(x, 0, 1, 30, 0, 0, 30, 0);
        due(4, x.copy(0, 0, 0, 1, 4));
        int[] upwards = {30, 30, 0, 0, 30};
        for (int i = 0; i < 5; i++) {
            due(upwards[i] == 30 ? 1 : 0, is30(x, 0, i) ? 1 : 0);
        }
        fill(x, 0, 1, 0, 30, 0, 0, 30);
        due(4, x.copy(0, 1, 0, 0, 4));
        int[] downwards = {30, 0, 0, 30, 30};
        for (int i = 0; i < 5; i++) {
            due(downwards[i] == 30 ? 1 : 0, is30(x, 0, i) ? 1 : 0);
        }
        due(5, x.copy(0, 0, 0, 0, 5));
        for (int i = 0; i < 5; i++) {
            due(downwards[i] == 30 ? 1 : 0, is30(x, 0, i) ? 1 : 0);
        }
    }

    @Says(in = "Promise 4", words = "n ITEMS of a")
    static void copyOfNone() {
        AlikeSteps x = new AlikeSteps();
        x.row(0, 0, 3);
        x.row(1, 0, 2);
        x.row(2, 0, 0);
        due(0, x.copy(0, 0, 1, 0, 0));
        due(0, x.copy(0, 3, 1, 2, 0));
        due(0, x.copy(2, 0, 2, 0, 0));
        due(PLACE, x.copy(0, 4, 1, 2, 0));
        due(PLACE, x.copy(0, 3, 1, 3, 0));
        due(PLACE, x.copy(2, 1, 2, 0, 0));
    }

    @Says(in = "Promise 4", words = "BAD: ROWS;")
    static void copyOfNoSuchRow() {
        AlikeSteps x = new AlikeSteps();
        x.row(0, 0, 1);
        x.row(7, 0, 1);
        for (int row : new int[] {-1, 8, MIN, MAX}) {
            due(BAD, x.copy(row, 0, 0, 0, 1));
            due(BAD, x.copy(0, 0, row, 0, 1));
        }
        due(1, x.copy(0, 0, 7, 0, 1));
        due(1, x.copy(7, 0, 0, 0, 1));
    }

    @Says(in = "Promise 4", words = "NULL; STORE;")
    static void copyOfAMissingRow() {
        AlikeSteps x = new AlikeSteps();
        x.row(0, 0, 1);
        due(NULL, x.copy(0, 0, 1, 0, 1));
        due(NULL, x.copy(1, 0, 0, 0, 1));
        due(NULL, x.copy(1, 0, 1, 0, 0));
        x.row(1, 0, 1);
        due(1, x.copy(0, 0, 1, 0, 1));
        x.drop(0);
        due(NULL, x.copy(0, 0, 1, 0, 0));
    }

    @Says(in = "Promise 4", words = "STORE;")
    static void copyBetweenLanesEvenOfNone() {
        AlikeSteps x = new AlikeSteps();
        x.row(0, 0, 1);
        x.row(1, 2, 1);
        due(STORE, x.copy(0, 0, 1, 0, 0));
        due(STORE, x.copy(1, 0, 0, 0, 1));
        x.row(1, 0, 1);
        due(1, x.copy(1, 0, 0, 0, 1));
    }

    @Says(in = "Promise 4", words = "PLACE (i, j, n below 0")
    static void copyBelow0() {
        AlikeSteps x = new AlikeSteps();
        x.row(0, 0, 5);
        x.row(1, 0, 5);
        due(PLACE, x.copy(0, -1, 1, 0, 1));
        due(PLACE, x.copy(0, 0, 1, -1, 1));
        due(PLACE, x.copy(0, 0, 1, 0, -1));
        due(PLACE, x.copy(0, 2, 1, 2, -1));
        due(PLACE, x.copy(0, MIN, 1, 0, 1));
        due(PLACE, x.copy(0, 0, 1, MIN, 1));
        due(PLACE, x.copy(0, 0, 1, 0, MIN));
        due(PLACE, x.copy(0, -1, 1, 0, 0));
        due(PLACE, x.copy(0, 0, 1, -1, 0));
    }

    @Says(in = "Promise 4", words = "or beyond an end")
    static void copyBeyondAnEnd() {
        AlikeSteps x = new AlikeSteps();
        x.row(0, 0, 5);
        x.row(1, 0, 3);
        due(3, x.copy(0, 2, 1, 0, 3));
        due(PLACE, x.copy(0, 3, 1, 0, 3));
        due(PLACE, x.copy(0, 0, 1, 1, 3));
        due(PLACE, x.copy(0, 0, 1, 0, 4));
        due(PLACE, x.copy(1, 0, 0, 0, 4));
        due(PLACE, x.copy(0, 5, 1, 0, 1));
        due(PLACE, x.copy(0, 0, 1, 3, 1));
        // sums that wrap around
        due(PLACE, x.copy(0, 1, 1, 0, MAX));
        due(PLACE, x.copy(0, MAX, 1, 0, 1));
        due(PLACE, x.copy(0, 0, 1, MAX, 1));
        due(PLACE, x.copy(0, MAX, 1, MAX, MAX));
        due(PLACE, x.copy(0, MAX, 1, MAX, 0));
    }

    // ---- promise 5

    @Says(in = "Promise 5", words = "A ROW is missing from now on: how many ITEMS it had.")
    static void dropMakesItMissing() {
        AlikeSteps x = read("p;t0,0;");
        due(0, x.row(0, 1, 0));
        due(0, x.drop(0));
        fill(x, 0, 1, 30, 30);
        due(2, x.drop(0));
        due(0, x.count(0));
        due(NULL, x.set(0, 0, 0));
        due(NULL, x.copy(0, 0, 0, 0, 0));
        due(NULL, x.holds(0, 0, 0, 1));
        due(NULL, x.fits(0, 0, 0, 0));
        due(2, x.row(0, 1, 2));
        due(1, beginsWith0(x, 0) ? 1 : 0);
        due(40, x.row(7, 0, 40));
        due(40, x.drop(7));
    }

    @Says(in = "Promise 5", words = "BAD;")
    static void dropOfNoSuchRow() {
        AlikeSteps x = new AlikeSteps();
        for (int row : new int[] {-1, 8, MIN, MAX}) {
            due(BAD, x.drop(row));
        }
    }

    @Says(in = "Promise 5", words = "BAD; NULL.")
    static void dropOfAMissingRow() {
        AlikeSteps x = new AlikeSteps();
        due(NULL, x.drop(0));
        x.row(0, 0, 1);
        due(1, x.drop(0));
        due(NULL, x.drop(0));
        due(1, x.status());
    }
}
