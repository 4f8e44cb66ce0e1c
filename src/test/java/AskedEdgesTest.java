/** Boundary cases of promises 31 to 36: KINDS, ASKS, THE TRACE, count and status. */
public final class AskedEdgesTest extends Edges {
    private static final String KINDS = "p;g;x;d;w;";

    public static void main(String[] args) throws Exception {
        run(AskedEdgesTest.class, 31, 36);
    }

    /** The answer of an ask, and the bodies that it leaves in THE TRACE. */
    private static void asked(AlikeSteps x, int state, int what, int want, int... bodies) {
        due(want, x.ask(state, what));
        for (int i = 0; i < bodies.length; i++) {
            due(bodies[i], x.trace(i));
        }
        due(NONE, x.trace(bodies.length));
    }

    // ---- the terms of KINDS and ASKS

    @Says(in = "Terms", words = "KINDS of STATES: 0 STATE; 1 PLACE, a STATE; 2 GOAL, a PLACE; 3 TRAP, a PLACE; 4 DOOR, a STATE; 5 GATE, a DOOR.")
    static void kindsAreOthersToo() {
        AlikeSteps x = read(KINDS);
        boolean[][] is = {
            {true, true, false, false, false, false},
            {true, true, true, false, false, false},
            {true, true, false, true, false, false},
            {true, false, false, false, true, false},
            {true, false, false, false, true, true}};
        for (int s = 0; s < 5; s++) {
            for (int kind = 0; kind <= 5; kind++) {
                due(is[s][kind] ? s : KIND, x.as(s, kind));
            }
        }
    }

    @Says(in = "Terms", words = "each of which leaves its number in THE TRACE as it begins (the first 16)")
    static void theTraceHasTheBodiesInTheirOrder() {
        AlikeSteps x = read(KINDS);
        // the longest there is has six, so sixteen are never there
        asked(x, 1, 0, -4, 12, 11, 10, 24, 21, 20);
        for (int i = 6; i <= 17; i++) {
            due(NONE, x.trace(i));
        }
    }

    @Says(in = "Terms", words = "0 SIZE: 10 lent to all STATES: how many pairs of a LETTER and a STATE to which one GOES from it.")
    static void sizeCountsPairs() {
        // a door has what 10 gives, less 100
        due(-100, read("d;").ask(0, 0));
        due(-99, read("d;a0,0;a0,0;").ask(0, 0));
        due(-96, read("d;a0,0;b0,0;c0,0;t0,0;").ask(0, 0));
        due(-98, read("d;p;d;a0,1;a2,0;").ask(0, 0));
        due(-90, read("p;p;p;p;p;p;p;p;p;d;t9,0;t9,1;t9,2;t9,3;t9,4;t9,5;t9,6;t9,7;t9,8;t9,9;").ask(9, 0));
        // a trap goes nowhere
        due(-1000, read("x;a0,0;").ask(0, 0));
    }

    @Says(in = "Terms", words = "11 of PLACES: what 10 gives, and MARK.")
    static void sizeOfPlaces() {
        asked(read("p;a0,0;b0,0;"), 0, 0, 2, 11, 10, 21, 20);
        asked(read("g;p;a1,0;"), 1, 0, 1 + 1 + 1, 11, 10, 21, 20);
    }

    @Says(in = "Terms", words = "12 of GOALS: 0 less what 11 gives.")
    static void sizeOfGoals() {
        asked(read("p;g;a1,0;"), 1, 0, -(1 + 2 * (1 + 1)), 12, 11, 10, 24, 21, 20);
        asked(read("g;"), 0, 0, 0, 12, 11, 10, 24, 21, 20);
    }

    @Says(in = "Terms", words = "13 of DOORS: what 10 gives, less 100.")
    static void sizeOfDoors() {
        asked(read("p;d;a1,0;"), 1, 0, -99, 13, 10);
    }

    @Says(in = "Terms", words = "14 of GATES: what 13 gives, twice.")
    static void sizeOfGates() {
        asked(read("p;w;a1,0;"), 1, 0, -198, 14, 13, 10);
    }

    @Says(in = "Terms", words = "21 of PLACES: what 20 gives, and its BLOCK by RULE 0.")
    static void markOfPlaces() {
        // by rule 0 the block of 1 is 1, by all others it is 0
        AlikeSteps x = read("p;p;p;t0,1;");
        asked(x, 1, 1, 1 + 1, 21, 20);
        asked(x, 2, 1, 2 + 1, 21, 20);
        asked(x, 0, 1, 0, 21, 20);
    }

    @Says(in = "Terms", words = "22 of TRAPS: what 21 gives, less 1000.")
    static void markOfTraps() {
        asked(read("g;x;"), 1, 1, 1 + 1 - 1000, 22, 21, 20);
        asked(read("x;"), 0, 1, -1000, 22, 21, 20);
    }

    @Says(in = "Terms", words = "23 of DOORS: what 20 gives, less SIZE.")
    static void markOfDoors() {
        asked(read("p;d;a1,0;"), 1, 1, 1 + 99, 23, 20, 13, 10);
    }

    @Says(in = "Terms", words = "24 of GOALS: what 21 gives, twice.")
    static void markOfGoals() {
        asked(read("p;g;"), 1, 1, 2 * (1 + 1), 24, 21, 20);
    }

    @Says(in = "Terms", words = "else that of the nearest KIND that it is, too, else the one that is lent")
    static void theBodyOfTheNearestKind() {
        // no body is told for the SIZE of a trap: it is a place; nor for the MARK of a gate: it is a door
        asked(read("x;"), 0, 0, -1000, 11, 10, 22, 21, 20);
        asked(read("w;"), 0, 1, 200, 23, 20, 14, 13, 10);
    }

    @Says(in = "Terms", words = "SIZE, MARK within others are asked of the same STATE anew")
    static void withinOthersItIsAskedAnew() {
        // 11 of a goal asks for a goal's MARK, 11 of a trap for a trap's, 23 of a gate for a gate's SIZE
        asked(read("p;g;"), 1, 0, -4, 12, 11, 10, 24, 21, 20);
        asked(read("p;x;"), 1, 0, 1 - 1000, 11, 10, 22, 21, 20);
        asked(read("p;w;"), 1, 1, 1 + 200, 23, 20, 14, 13, 10);
    }

    // ---- promise 31

    @Says(in = "Promise 31", words = "The KIND of a STATE, as told (1 to 5).")
    static void kindAsToldAndAsItBecame() {
        AlikeSteps x = read(KINDS + KINDS);
        for (int s = 0; s < 10; s++) {
            due(s % 5 + 1, x.kind(s));
        }
        x.become(9, 1);
        due(1, x.kind(9));
        x.undo();
        due(5, x.kind(9));
    }

    @Says(in = "Promise 31", words = "BAD.")
    static void kindOfNoState() {
        AlikeSteps x = read("p;p;");
        for (int state : new int[] {-1, 2, 9, 10, MIN, MAX}) {
            due(BAD, x.kind(state));
        }
        due(BAD, new AlikeSteps().kind(0));
    }

    // ---- promise 32

    @Says(in = "Promise 32", words = "A STATE is taken as one of a KIND (0 .. 5): its number.")
    static void asItsNumber() {
        AlikeSteps x = read("p;p;p;p;p;p;p;p;p;w;");
        due(9, x.as(9, 0));
        due(9, x.as(9, 5));
        due(0, x.as(0, 0));
        due(0, x.as(0, 1));
        due(0, x.status());
    }

    @Says(in = "Promise 32", words = "BAD;")
    static void asOfWhatIsNotThere() {
        AlikeSteps x = read("p;w;");
        for (int state : new int[] {-1, 2, 10, MIN, MAX}) {
            due(BAD, x.as(state, 0));
        }
        for (int kind : new int[] {-1, 6, MIN, MAX}) {
            due(BAD, x.as(1, kind));
        }
        due(BAD, new AlikeSteps().as(0, 0));
    }

    @Says(in = "Promise 32", words = "KIND: it is no such one.")
    static void asOfWhatItIsNot() {
        AlikeSteps x = read("p;w;");
        due(KIND, x.as(0, 2));
        due(3, x.status());
        due(KIND, x.as(1, 1));
        due(KIND, x.as(0, 5));
        x.become(0, 2);
        due(0, x.as(0, 2));
        due(0, x.status());
    }

    // ---- promise 33

    @Says(in = "Promise 33", words = "An ASK (0, 1) of a STATE. BAD.")
    static void askOfWhatIsNotThere() {
        AlikeSteps x = read("p;p;");
        for (int state : new int[] {-1, 2, 10, MIN, MAX}) {
            due(BAD, x.ask(state, 0));
        }
        for (int what : new int[] {-1, 2, MIN, MAX}) {
            due(BAD, x.ask(0, what));
        }
        due(1, x.ask(1, 0));
        due(1, x.ask(1, 1));
        due(BAD, new AlikeSteps().ask(0, 0));
    }

    @Says(in = "Promise 33", words = "THE TRACE is empty ahead of it.")
    static void theTraceIsEmptyAheadOfAnAsk() {
        AlikeSteps x = read("g;p;");
        asked(x, 0, 0, 0, 12, 11, 10, 24, 21, 20);
        asked(x, 1, 1, 2, 21, 20);
        asked(x, 1, 1, 2, 21, 20);
        // a refused one is none, and leaves it
        due(BAD, x.ask(2, 0));
        due(BAD, x.ask(0, 2));
        due(21, x.trace(0));
        due(20, x.trace(1));
        due(NONE, x.trace(2));
    }

    // ---- promise 34

    @Says(in = "Promise 34", words = "Number i of THE TRACE; NONE.")
    static void traceOfNone() {
        AlikeSteps x = read("g;");
        due(NONE, x.trace(0));
        x.ask(0, 1);
        due(24, x.trace(0));
        due(21, x.trace(1));
        due(20, x.trace(2));
        for (int i : new int[] {-1, 3, 15, 16, 17, MIN, MAX}) {
            due(NONE, x.trace(i));
        }
        // it stays when the system is another
        reread(x, "p;");
        x.image(0);
        x.restore(0);
        due(24, x.trace(0));
    }

    // ---- promise 35

    @Says(in = "Promise 35", words = "How many: 0 ROWS")
    static void countOfRows() {
        AlikeSteps x = new AlikeSteps();
        for (int n = 1; n <= 8; n++) {
            x.row(8 - n, 0, n == 1 ? 0 : 40);
            due(n, x.count(0));
        }
        x.row(7, 1, 1);
        due(8, x.count(0));
        for (int n = 7; n >= 0; n--) {
            x.drop(n);
            due(n, x.count(0));
        }
    }

    @Says(in = "Promise 35", words = "1 STATES, 2 ARCS")
    static void countOfStatesAndArcs() {
        AlikeSteps x = new AlikeSteps();
        due(0, x.count(1));
        due(0, x.count(2));
        reread(x, KINDS + KINDS + "a0,0;".repeat(20));
        due(10, x.count(1));
        due(20, x.count(2));
        reread(x, "p;");
        due(1, x.count(1));
        due(0, x.count(2));
    }

    @Says(in = "Promise 35", words = "3 MARKED (bits)")
    static void countOfMarked() {
        due(0, new AlikeSteps().count(3));
        due(0, read("p;x;d;").count(3));
        AlikeSteps x = read("g;w;g;w;g;w;g;w;g;w;");
        due(1023, x.count(3));
        x.become(9, 4);
        due(511, x.count(3));
        x.become(0, 3);
        due(510, x.count(3));
        reread(x, "p;g;");
        due(2, x.count(3));
    }

    @Says(in = "Promise 35", words = "4 ACTS that can be undone")
    static void countOfActs() {
        AlikeSteps x = read("p;p;a0,1;");
        due(0, x.count(4));
        x.lay(0, 0, 0);
        x.turn(0);
        x.become(0, 2);
        x.cut(0);
        due(4, x.count(4));
        for (int n = 5; n <= 22; n++) {
            x.turn(0);
            due(Math.min(n, 20), x.count(4));
        }
        x.undo();
        due(19, x.count(4));
    }

    @Says(in = "Promise 35", words = "5 bytes on the tape")
    static void countOfBytes() {
        AlikeSteps x = new AlikeSteps();
        due(0, x.count(5));
        for (int n = 1; n <= 141; n++) {
            x.feed('p');
            due(Math.min(n, 140), x.count(5));
        }
        x.system();
        due(0, x.count(5));
    }

    @Says(in = "Promise 35", words = "BAD.")
    static void countOfNothing() {
        AlikeSteps x = read(KINDS);
        for (int what : new int[] {-1, 6, MIN, MAX}) {
            due(BAD, x.count(what));
        }
    }

    // ---- promise 36

    @Says(in = "Promise 36", words = "Of the latest call with a ROW, or as()")
    static void statusOfEachSuchCall() {
        AlikeSteps x = read("p;g;a0,1;");
        x.row(0, 0, 2);
        x.row(1, 1, 2);
        // each of them: first as it should be, then with a finding
        due(5, x.set(0, 0, 5));
        due(0, x.status());
        due(PLACE, x.set(0, 2, 0));
        due(2, x.status());
        due(2, x.copy(0, 0, 0, 0, 2));
        due(0, x.status());
        due(STORE, x.copy(0, 0, 1, 0, 2));
        due(5, x.status());
        due(2, x.row(2, 2, 2));
        due(0, x.status());
        due(SIZE, x.row(2, 2, -1));
        due(4, x.status());
        due(2, x.drop(2));
        due(0, x.status());
        due(NULL, x.drop(2));
        due(1, x.status());
        due(0, x.fits(0, 0, 0, 0));
        due(0, x.status());
        due(NULL, x.fits(0, 0, 2, 0));
        due(1, x.status());
        due(NONE, x.holds(0, 0, 0, 1));
        due(0, x.status());
        due(PLACE, x.holds(0, 0, 0, 3));
        due(2, x.status());
        due(1, x.as(1, 2));
        due(0, x.status());
        due(KIND, x.as(0, 2));
        due(3, x.status());
    }

    @Says(in = "Promise 36", words = "that was not BAD, STATE, FULL")
    static void statusOfRefusedCalls() {
        AlikeSteps x = read("p;g;a0,1;");
        due(KIND, x.as(0, 2));
        int[] bad = {x.row(8, 0, 0), x.row(0, 0, 41), x.set(8, 0, 0), x.copy(8, 0, 0, 0, 0), x.drop(8),
            x.holds(2, 0, 0, 1), x.fits(3, 0, 0, 0), x.as(2, 0), x.as(0, 6)};
        for (int answer : bad) {
            due(BAD, answer);
        }
        due(3, x.status());
        x.row(0, 0, 1);
        due(0, x.status());
        due(BAD, x.row(0, 3, -1));
        due(BAD, x.set(-1, 0, 0));
        due(BAD, x.as(0, -1));
        due(0, x.status());
    }

    @Says(in = "Promise 36", words = "Of the latest call")
    static void statusIsLeftByAllOtherCalls() {
        AlikeSteps x = read("p;g;a0,1;");
        due(SIZE, x.row(0, 0, -1));
        x.feed('p');
        x.feed(';');
        x.image(0);
        x.lay(0, 0, 0);
        x.turn(0);
        x.become(0, 2);
        x.cut(0);
        x.undo();
        x.arc(0, 0);
        x.moves(0, 0, 0);
        x.block(0, 0);
        x.parts(0, 0);
        x.behind(0, 0, 0);
        x.signs(0, 0);
        x.parted(0, 0, 1);
        x.tells(0, 0, 1, 0);
        x.depth(0, 0, 1);
        x.small(0, 0, 0);
        x.arcs(0);
        x.words(0, 1);
        x.walk(0, 1, 1);
        x.kind(0);
        x.ask(0, 0);
        x.trace(0);
        x.count(0);
        x.fault();
        x.system();
        x.restore(0);
        due(4, x.status());
        due(4, x.status());
    }

    @Says(in = "Promise 36", words = "0: it had none, or there was none.")
    static void statusOfNone() {
        AlikeSteps x = new AlikeSteps();
        due(0, x.status());
        x.row(9, 0, 0);
        due(0, x.status());
        due(NULL, x.drop(0));
        due(1, x.status());
        due(0, x.row(0, 0, 0));
        due(0, x.status());
    }
}
