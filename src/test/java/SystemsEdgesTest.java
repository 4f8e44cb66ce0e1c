/** Boundary cases of promises 6 to 15: THE TAPE, SYSTEMS and their FAULTS, ACTS, GOES and MOVES. */
public final class SystemsEdgesTest extends Edges {
    private static final String TEN = "p;p;p;p;p;p;p;p;p;p;";
    private static final String KINDS = "p;g;x;d;w;";

    public static void main(String[] args) throws Exception {
        run(SystemsEdgesTest.class, 6, 15);
    }

    private static void faulty(String text, int place, int number) {
        AlikeSteps x = new AlikeSteps();
        due(FAULT - place, reread(x, text));
        due(number, x.fault());
    }

    private static void fine(String text, int states, int arcs) {
        AlikeSteps x = new AlikeSteps();
        due(states, reread(x, text));
        due(arcs, x.count(2));
        due(0, x.fault());
    }

    // ---- the terms of texts

    @Says(in = "Terms", words = "THE TAPE has at most 140 bytes, that come one by one")
    static void theTapeHas140Bytes() {
        // ten states, and twenty arcs of six bytes
        String longest = TEN + "a00,9;".repeat(20);
        due(140, longest.length());
        AlikeSteps x = new AlikeSteps();
        for (int n = 1; n <= 140; n++) {
            due(n, x.feed(longest.charAt(n - 1)));
        }
        due(FULL, x.feed(';'));
        due(140, x.count(5));
        due(10, x.system());
        due(20, x.count(2));
        due(9, x.arc(19, 2));
    }

    @Says(in = "Terms", words = "TOKENS: letters a to z (each by itself)")
    static void lettersAreTokensByThemselves() {
        faulty("pp;", 1, 1);
        faulty("p;p;aa0,1;", 5, 1);
        for (char c = 'a'; c <= 'z'; c++) {
            boolean sort = "pgxdw".indexOf(c) >= 0;
            if (sort) {
                fine(c + ";", 1, 0);
            } else {
                faulty(c + ";", 0, 1);
            }
        }
    }

    @Says(in = "Terms", words = "NUMBERS (figures, 2 at most)")
    static void numbersHaveTwoFiguresAtMost() {
        fine(TEN + "a0,9;a00,09;", 10, 2);
        faulty(TEN + "a000,9;", 21, 1);
        faulty(TEN + "a0,009;", 23, 1);
        faulty(TEN + "a0,10;", 23, 2);
        faulty("p;a/,0;", 3, 1);
        faulty("p;a:,0;", 3, 1);
    }

    @Says(in = "Terms", words = "SIGNS , and ; nothing else, no blanks.")
    static void nothingElseIsAToken() {
        String text = "p;p;a0,1;";
        // which bytes can stand at each place, all else being as it is
        String[] can = {"pgxdw", ";", "pgxdw", ";", "tabc", "01", ",", "01", ";"};
        for (int at = 0; at < text.length(); at++) {
            for (char b = 0; b < 256; b++) {
                boolean stands = can[at].indexOf(b) >= 0;
                due(stands ? 2 : FAULT - faultOf(at, b), reread(new AlikeSteps(), text.substring(0, at) + b
                        + text.substring(at + 1)));
            }
        }
        faulty(" p;", 0, 1);
        faulty("p ;", 1, 1);
        faulty("p; ", 2, 1);
        faulty("p;\n", 2, 1);
    }

    /** A figure may make the run ahead of it longer; an arc's or a state's letter may stand, but not what follows. */
    private static int faultOf(int at, char b) {
        if ((at == 6 || at == 8) && b >= '0' && b <= '9') {
            return at - 1;
        }
        boolean another = at == 2 && "tabc".indexOf(b) >= 0 || at == 4 && "pgxdw".indexOf(b) >= 0;
        return another ? at + 1 : at;
    }

    @Says(in = "Terms", words = "system: state { state } { arc }.")
    static void aSystemHasAStateAtLeast() {
        faulty("", 0, 1);
        faulty("a0,0;", 0, 1);
        fine("p;", 1, 0);
        fine("p;p;", 2, 0);
        fine("p;a0,0;", 1, 1);
        faulty("p;a0,0;p;", 7, 1);
    }

    @Says(in = "Terms", words = "state: SORT ; (SORT: p a place, g a goal, x a trap, d a door, w a gate")
    static void sortsAreKinds() {
        AlikeSteps x = read(KINDS);
        for (int s = 0; s < 5; s++) {
            due(s + 1, x.kind(s));
        }
    }

    @Says(in = "Terms", words = "STATES 0 .. 9, 10 at most")
    static void tenStatesAtMost() {
        fine("p;".repeat(9), 9, 0);
        fine(TEN, 10, 0);
        faulty(TEN + "p;", 20, 3);
        AlikeSteps x = read(TEN);
        due(1, x.kind(9));
        due(BAD, x.kind(10));
        lastStateIsAsAnyOther();
    }

    /** 9 goes by a to 8, 8 by b to 9, and only 9 is marked: the blocks are 0 to 7, then 8, then 9. */
    private static void lastStateIsAsAnyOther() {
        AlikeSteps x = read("p;".repeat(9) + "g;a9,8;b8,9;");
        due(1 << 9, x.count(3));
        due(1 << 8, x.moves(0, 9, 1));
        due(1 << 9, x.moves(1, 8, 2));
        due(2, x.block(0, 9));
        due(1, x.behind(0, 0, 9));
        due(1L << 11, x.signs(0, 9));
        due(1L << 22, x.signs(2, 8));
        due(0, x.parted(1, 9, 8));
        due(1 << 1, x.small(0, 2, 1));
        due(2, x.arcs(0));
        told(x, 0, 9, 8, 30);
        told(x, 0, 8, 0, 2, 10);
        due(0, x.depth(0, 9, 8));
        due(1, formula(x, 0, 9, 1, 10));
        due(0, formula(x, 0, 9, 2, 10));
        due(1, formula(x, 1, 9, 1, 11, 2, 11, 30));
        due(1, x.words(9, 6));
        due(8, x.walk(9, 1, 1));
        due(9, x.walk(9, 2, 1));
        fill(x, 1, 0, 0, 0, 0, 0, 0, 0, 0, 0, 1, 2);
        due(1 << 8 | 1 << 9, x.fits(0, 0, 1, 1));
        due((1 << 10) - 1, x.fits(0, 1, 1, 2));
        due(-23, x.ask(9, 0));
        due(22, x.ask(9, 1));
        due(9, x.as(9, 1));
        due(3, x.lay(3, 9, 9));
        due(9, x.turn(2));
        due(2, x.become(9, 5));
        due(5, x.kind(9));
    }

    @Says(in = "Terms", words = "LETTER: t silent, a, b, c: LETTERS 0 to 3")
    static void lettersAreNumbered() {
        AlikeSteps x = read("p;t0,0;a0,0;b0,0;c0,0;");
        for (int letter = 0; letter < 4; letter++) {
            due(letter, x.arc(letter, 0));
        }
        faulty("p;d0,0;", 3, 1);
        faulty("p;s0,0;", 2, 1);
        faulty("p;u0,0;", 2, 1);
    }

    @Says(in = "Terms", words = "from a STATE to a STATE")
    static void arcsGoFromStatesToStates() {
        fine(TEN + "a9,0;a0,9;", 10, 2);
        faulty("p;".repeat(9) + "a9,0;", 19, 2);
        faulty("p;".repeat(9) + "a0,9;", 21, 2);
        fine("p;a0,0;", 1, 1);
        faulty("p;a1,0;", 3, 2);
    }

    @Says(in = "Terms", words = "ARCS 0 .. 19, 20 at most")
    static void twentyArcsAtMost() {
        fine("p;" + "a0,0;".repeat(19), 1, 19);
        fine("p;" + "a0,0;".repeat(20), 1, 20);
        faulty("p;" + "a0,0;".repeat(21), 102, 3);
        AlikeSteps x = read("p;" + "a0,0;".repeat(20));
        due(1, x.arc(19, 0));
        due(BAD, x.arc(20, 0));
        lastArcIsAsAnyOther();
    }

    private static void lastArcIsAsAnyOther() {
        AlikeSteps x = read("p;g;" + "a0,0;".repeat(19) + "b1,0;");
        fill(x, 0, 0, 0, 1);
        due(15, x.fits(0, 19, 0, 0));
        due(BAD, x.fits(0, 20, 0, 0));
        due(1, x.turn(19));
        due(BAD, x.turn(20));
        due(2, x.moves(0, 0, 2));
        due(19, x.cut(19));
        due(0, x.moves(0, 0, 2));
        due(1, x.undo());
        due(2, x.arc(19, 0));
        due(0, x.undo());
        due(1, x.arc(19, 1));
        due(BAD, x.cut(20));
    }

    @Says(in = "Terms", words = "the same one may be there more than once")
    static void theSameArcTwice() {
        AlikeSteps x = read("p;p;a0,1;a0,1;");
        due(2, x.count(2));
        due(3, x.lay(1, 0, 1));
        due(2, x.moves(0, 0, 1));
        due(2, x.cut(0));
        due(1, x.cut(0));
        due(2, x.moves(0, 0, 1));
        due(0, x.cut(0));
        due(0, x.moves(0, 0, 1));
    }

    @Says(in = "Terms", words = "A SYSTEM that is read stands in place of the one before (none at first)")
    static void aSystemStandsInPlaceOfTheOneBefore() {
        AlikeSteps x = new AlikeSteps();
        due(0, x.count(1));
        due(10, reread(x, "g;".repeat(10) + "a9,9;b9,0;"));
        due(1, reread(x, "x;"));
        due(1, x.count(1));
        due(0, x.count(2));
        due(0, x.count(3));
        due(BAD, x.kind(1));
        due(BAD, x.arc(0, 0));
        due(0, x.block(0, 0));
    }

    @Says(in = "Terms", words = "no ACT can be undone. FAULTS")
    static void noActCanBeUndoneBehindReading() {
        AlikeSteps x = read("p;p;");
        x.lay(0, 0, 1);
        x.become(0, 2);
        due(2, x.count(4));
        due(1, reread(x, "p;"));
        due(0, x.count(4));
        due(STATE, x.undo());
        due(1, x.kind(0));
    }

    @Says(in = "Terms", words = "FAULTS, the first TOKEN that has one (its first byte)")
    static void ofTwoFaultyTokensTheFirst() {
        faulty("p;a7,8;?", 3, 2);
        faulty("p;a0,8;?", 5, 2);
        faulty("p;a0,78?", 5, 2);
        faulty("p;a78?", 3, 2);
        faulty(TEN + "p?", 20, 3);
        faulty("p;" + "a0,0;".repeat(20) + "a99,", 102, 3);
        faulty("?" + TEN + "p;", 0, 1);
    }

    @Says(in = "Terms", words = "of one TOKEN the least")
    static void ofTwoFaultsOfATokenTheLeast() {
        // neither a place for it, nor room
        faulty(TEN + "a0,0;p;", 25, 1);
        faulty("p;" + "a0,0;".repeat(20) + "p;", 102, 1);
        // none, and no state
        faulty("p;a999,0;", 3, 1);
        // it cannot stand there, and is no state
        faulty("p;99;", 2, 1);
        faulty("p;a0,0;99;", 7, 1);
    }

    @Says(in = "Terms", words = "1 it cannot stand there, or is none")
    static void whatCannotStandThere() {
        faulty(";", 0, 1);
        faulty(",", 0, 1);
        faulty("0;", 0, 1);
        faulty("p,", 1, 1);
        faulty("p0;", 1, 1);
        faulty("p;;", 2, 1);
        faulty("p;0,0;", 2, 1);
        faulty("p;a,0;", 3, 1);
        faulty("p;ap,0;", 3, 1);
        faulty("p;a0;0;", 4, 1);
        faulty("p;a0a0;", 4, 1);
        faulty("p;a0,,0;", 5, 1);
        faulty("p;a0,a;", 5, 1);
        faulty("p;a0,0,", 6, 1);
        faulty("p;a0,0a", 6, 1);
    }

    @Says(in = "Terms", words = "a run of three figures, at its first")
    static void aRunOfThreeFigures() {
        faulty("p;a000,0;", 3, 1);
        faulty("p;a0000,0;", 3, 1);
        faulty("p;a0,000;", 5, 1);
        faulty("p;a0,00000;", 5, 1);
        faulty("p;a123", 3, 1);
        faulty("123", 0, 1);
        faulty("p123;", 1, 1);
        fine("p;a00,00;", 1, 1);
    }

    @Says(in = "Terms", words = "the end: how many bytes there are")
    static void theEndIsAFaultToo() {
        String text = "p;a00,00;";
        boolean[] whole = {false, false, true, false, false, false, false, false, false, true};
        for (int n = 0; n <= text.length(); n++) {
            if (whole[n]) {
                fine(text.substring(0, n), 1, n == 2 ? 0 : 1);
            } else {
                faulty(text.substring(0, n), n, 1);
            }
        }
        faulty(TEN + "a00,9;".repeat(19) + "a00,00", 140, 1);
    }

    @Says(in = "Terms", words = "2 a NUMBER that is not as told")
    static void aNumberThatIsNoState() {
        faulty("p;a1,0;", 3, 2);
        faulty("p;a0,1;", 5, 2);
        faulty("p;a99,0;", 3, 2);
        faulty("p;a0,99;", 5, 2);
        faulty("p;p;a1,02;", 7, 2);
        faulty(TEN + "a10,0;", 21, 2);
        fine("p;p;a1,01;", 2, 1);
    }

    @Says(in = "Terms", words = "3 a state, an arc more than there is room for (its letter)")
    static void noRoomForOneMore() {
        for (String sort : new String[] {"p", "g", "x", "d", "w"}) {
            faulty(TEN + sort, 20, 3);
        }
        faulty(TEN + "t", 21, 1);
        for (String letter : new String[] {"t", "a", "b", "c"}) {
            faulty("p;" + "a0,0;".repeat(20) + letter, 102, 3);
        }
        faulty("p;" + "a0,0;".repeat(20) + "q", 102, 1);
    }

    // ---- the terms of GOES and MOVES

    @Says(in = "Terms", words = "if there is such an ARC from the first to the other, and the first is no trap")
    static void fromATrapOneDoesNotGo() {
        for (int kind = 1; kind <= 5; kind++) {
            AlikeSteps x = read("pgxdw".charAt(kind - 1) + ";p;a0,1;b0,0;");
            due(kind == 3 ? 0 : 2, x.moves(0, 0, 1));
            due(kind == 3 ? 0 : 1, x.moves(0, 0, 2));
            due(0, x.moves(0, 0, 0));
            due(0, x.moves(0, 0, 3));
            AlikeSteps y = read("p;" + "pgxdw".charAt(kind - 1) + ";a0,1;");
            due(2, y.moves(0, 0, 1));
            due(0, y.moves(0, 1, 1));
        }
    }

    @Says(in = "Terms", words = "if the other is a door or a gate")
    static void backToDoorsAndGatesAlone() {
        for (int kind = 1; kind <= 5; kind++) {
            AlikeSteps x = read("pgxdw".charAt(kind - 1) + ";p;a0,1;");
            due(kind >= 4 ? 1 : 0, x.moves(0, 1, 1));
            due(0, x.moves(0, 1, 0));
            due(0, x.moves(0, 1, 2));
        }
        AlikeSteps both = read("d;w;a0,1;");
        due(2, both.moves(0, 0, 1));
        due(1, both.moves(0, 1, 1));
        due(1, read("d;a0,0;").moves(0, 0, 1));
    }

    @Says(in = "Terms", words = "if the other is a door or a gate, and the first is no trap (to doors one goes back, too)")
    static void aTrapDoesNotGoBack() {
        for (int kind = 1; kind <= 5; kind++) {
            AlikeSteps x = read("d;w;" + "pgxdw".charAt(kind - 1) + ";a0,2;b1,2;");
            due(kind == 3 ? 0 : 1, x.moves(0, 2, 1));
            due(kind == 3 ? 0 : 2, x.moves(0, 2, 2));
            due(4, x.moves(0, 0, 1));
            due(4, x.moves(0, 1, 2));
        }
    }

    @Says(in = "Terms", words = "MARKED are goals and gates.")
    static void goalsAndGatesAreMarked() {
        AlikeSteps x = read(KINDS);
        due(2 | 16, x.count(3));
        for (int s = 0; s < 5; s++) {
            due(s == 1 || s == 4 ? 1 : 0, formula(x, 0, s, 30));
        }
    }

    @Says(in = "Terms", words = "any silent ones (none, too) ahead of it and behind it")
    static void silentOnesAheadAndBehind() {
        AlikeSteps x = read("p;p;p;p;p;p;t0,1;t1,2;a2,3;t3,4;a4,5;");
        due(8 | 16, x.moves(1, 0, 1));
        due(8 | 16, x.moves(1, 1, 1));
        due(8 | 16, x.moves(1, 2, 1));
        due(32, x.moves(1, 3, 1));
        due(32, x.moves(1, 4, 1));
        due(0, x.moves(1, 5, 1));
        due(0, x.moves(1, 0, 2));
        // eight silent ones ahead of it, or behind it
        AlikeSteps ahead = read(TEN + "t8,7;t7,6;t6,5;t5,4;t4,3;t3,2;t2,1;t1,0;c0,9;");
        due(512, ahead.moves(1, 8, 3));
        AlikeSteps behind = read(TEN + "c9,8;t8,7;t7,6;t6,5;t5,4;t4,3;t3,2;t2,1;t1,0;");
        due(511, behind.moves(1, 9, 3));
    }

    @Says(in = "Terms", words = "by 0 any silent ones (none, too)")
    static void silentOnesAlone() {
        AlikeSteps x = read("p;p;p;t0,1;t1,2;");
        due(7, x.moves(1, 0, 0));
        due(6, x.moves(1, 1, 0));
        due(4, x.moves(1, 2, 0));
        due(1, read("x;p;t0,1;").moves(1, 0, 0));
        due(3, read("p;p;t0,1;t1,0;").moves(1, 1, 0));
        AlikeSteps nine = read(TEN + "t9,8;t8,7;t7,6;t6,5;t5,4;t4,3;t3,2;t2,1;t1,0;");
        due(1023, nine.moves(1, 9, 0));
        due(1, nine.moves(1, 0, 0));
    }

    @Says(in = "Terms", words = "RULE 2: as RULE 0.")
    static void rule2MovesAsRule0() {
        AlikeSteps x = read("p;d;x;t0,1;a1,2;t2,0;b0,0;");
        for (int s = 0; s < 3; s++) {
            for (int letter = 0; letter < 4; letter++) {
                due(x.moves(0, s, letter), x.moves(2, s, letter));
            }
        }
        due(2, x.moves(2, 0, 0));
        due(0, x.moves(2, 0, 1));
    }

    // ---- the terms of ACTS

    @Says(in = "Terms", words = "ACTS (20 at most are kept")
    static void twentyActsAreKept() {
        AlikeSteps x = read("p;p;a0,1;");
        for (int n = 1; n <= 25; n++) {
            x.turn(0);
            due(Math.min(n, 20), x.count(4));
        }
        for (int left = 19; left >= 0; left--) {
            due(left, x.undo());
        }
        due(STATE, x.undo());
        // five could not be undone: so the arc is turned round
        due(1, x.arc(0, 1));
    }

    @Says(in = "Terms", words = "of more the oldest is forgotten")
    static void theOldestIsForgotten() {
        AlikeSteps x = read("p;p;p;a0,1;b2,1;c1,2;");
        String[] was = new String[24];
        // acts of all sorts, each unlike the one ahead of it
        for (int n = 0; n < 24; n++) {
            was[n] = system(x);
            switch (n % 4) {
                case 0: x.lay(n / 4 % 4, n % 3, 2); break;
                case 1: x.become(n / 4 % 3, x.kind(n / 4 % 3) % 5 + 1); break;
                case 2: x.turn(n / 4 % 3); break;
                default: x.cut(n / 4 % 2); break;
            }
        }
        due(20, x.count(4));
        for (int left = 19; left >= 0; left--) {
            due(left, x.undo());
            same(was[left + 4], system(x));
        }
        due(STATE, x.undo());
        same(was[4], system(x));
    }

    @Says(in = "Terms", words = "each can be undone, the latest first")
    static void theLatestIsUndoneFirst() {
        AlikeSteps x = read("p;g;t0,0;a0,1;b1,0;");
        String[] was = new String[8];
        was[0] = system(x);
        x.cut(0);
        was[1] = system(x);
        x.turn(1);
        was[2] = system(x);
        x.lay(3, 1, 1);
        was[3] = system(x);
        x.become(0, 5);
        was[4] = system(x);
        x.cut(2);
        was[5] = system(x);
        x.become(0, 1);
        was[6] = system(x);
        x.cut(0);
        for (int left = 6; left >= 0; left--) {
            due(left, x.undo());
            same(was[left], system(x));
        }
    }

    @Says(in = "Terms", words = "an ARC is laid (it comes last)")
    static void whatIsLaidComesLast() {
        AlikeSteps x = read("p;p;c1,1;");
        x.lay(0, 0, 1);
        x.lay(0, 0, 0);
        same("p;p;c1,1;t0,1;t0,0;", system(x));
    }

    @Says(in = "Terms", words = "cut (those behind it get lesser numbers)")
    static void thoseBehindACutGetLesserNumbers() {
        AlikeSteps x = read("p;p;t0,0;a0,1;b1,0;c1,1;");
        x.cut(1);
        same("p;p;t0,0;b1,0;c1,1;", system(x));
        x.cut(2);
        same("p;p;t0,0;b1,0;", system(x));
        x.cut(0);
        same("p;p;b1,0;", system(x));
        x.undo();
        x.undo();
        x.undo();
        same("p;p;t0,0;a0,1;b1,0;c1,1;", system(x));
    }

    // ---- promise 6

    @Says(in = "Promise 6", words = "A byte (0 to 255) comes behind the tape: how many it has.")
    static void bytesComeBehindTheTape() {
        AlikeSteps x = new AlikeSteps();
        due(1, x.feed(0));
        due(2, x.feed(255));
        due(2, x.count(5));
        due(FAULT, x.system());
        due(1, x.feed('p'));
        due(2, x.feed(';'));
        due(3, x.feed(255));
        due(FAULT - 2, x.system());
    }

    @Says(in = "Promise 6", words = "BAD;")
    static void noByte() {
        AlikeSteps x = new AlikeSteps();
        for (int b : new int[] {-1, 256, 257, 'p' + 256, MIN, MAX}) {
            due(BAD, x.feed(b));
        }
        due(0, x.count(5));
    }

    @Says(in = "Promise 6", words = "FULL.")
    static void theTapeIsFull() {
        AlikeSteps x = new AlikeSteps();
        for (int n = 1; n <= 140; n++) {
            due(n, x.feed(n == 1 ? 'q' : ';'));
        }
        due(FULL, x.feed('p'));
        due(FULL, x.feed(0));
        due(140, x.count(5));
        due(FAULT, x.system());
        due(1, x.feed('p'));
    }

    // ---- promise 7

    @Says(in = "Promise 7", words = "The tape, empty then, is read: how many STATES there are.")
    static void theTapeIsEmptyThen() {
        AlikeSteps x = new AlikeSteps();
        due(3, reread(x, "p;p;p;"));
        due(0, x.count(5));
        // the empty tape is no system
        due(FAULT, x.system());
        due(3, x.count(1));
        due(FAULT - 1, reread(x, "p"));
        due(0, x.count(5));
        due(1, reread(x, "p;"));
    }

    @Says(in = "Promise 7", words = "-1000100 less the place of a FAULT")
    static void theAnswerHasThePlaceOfAFault() {
        due(-1000100, reread(new AlikeSteps(), "?"));
        due(-1000101, reread(new AlikeSteps(), "p?"));
        due(-1000239, reread(new AlikeSteps(), TEN + "a00,9;".repeat(19) + "a00,0?"));
        due(-1000240, reread(new AlikeSteps(), TEN + "a00,9;".repeat(19) + "a00,00"));
    }

    @Says(in = "Promise 7", words = "a FAULT: all stays.")
    static void allStaysBehindAFault() {
        AlikeSteps x = read("p;g;a0,1;");
        x.image(0);
        x.lay(2, 1, 1);
        x.become(0, 4);
        fill(x, 0, 0, 30, 30);
        x.set(0, 2, 0);
        x.ask(1, 0);
        String was = picture(x).replace("fault 0", "fault 2");
        // a whole other system stands ahead of the fault
        due(FAULT - 21, reread(x, "x;x;x;x;c0,1;c1,0;c0,4;"));
        same(was, picture(x));
        due(2, x.status());
        due(2, x.parts(0, 0));
        due(1, x.undo());
        due(1, x.kind(0));
        due(0, x.undo());
        due(1, x.restore(0));
        same("p;g;a0,1;", system(x));
    }

    // ---- promise 8

    @Says(in = "Promise 8", words = "The number of the latest FAULT")
    static void theLatestFaultStays() {
        AlikeSteps x = read("p;a7,0;");
        due(2, x.fault());
        reread(x, "p;");
        due(2, x.fault());
        reread(x, TEN + "p;");
        due(3, x.fault());
        x.restore(0);
        x.undo();
        due(3, x.fault());
        x.system();
        due(1, x.fault());
    }

    @Says(in = "Promise 8", words = "0 before one")
    static void noFaultAtFirst() {
        AlikeSteps x = new AlikeSteps();
        due(0, x.fault());
        reread(x, "p;");
        due(0, x.fault());
        x.feed('?');
        due(0, x.fault());
        x.system();
        due(1, x.fault());
    }

    // ---- promise 9

    @Says(in = "Promise 9", words = "An ARC is laid: how many there are.")
    static void layOfTheFirstAndTheLast() {
        AlikeSteps x = read(TEN);
        due(1, x.lay(0, 0, 0));
        due(2, x.lay(3, 9, 9));
        due(3, x.arc(1, 0));
        due(9, x.arc(1, 1));
        due(9, x.arc(1, 2));
        due(2, x.count(2));
        due(2, x.count(4));
        due(512, x.moves(0, 9, 3));
    }

    @Says(in = "Promise 9", words = "BAD;")
    static void layOfWhatIsNotThere() {
        AlikeSteps x = read("p;p;");
        for (int letter : new int[] {-1, 4, MIN, MAX}) {
            due(BAD, x.lay(letter, 0, 0));
        }
        for (int state : new int[] {-1, 2, 10, MIN, MAX}) {
            due(BAD, x.lay(0, state, 0));
            due(BAD, x.lay(0, 0, state));
        }
        due(0, x.count(2));
        due(0, x.count(4));
        due(BAD, new AlikeSteps().lay(0, 0, 0));
    }

    @Says(in = "Promise 9", words = "FULL: 20.")
    static void layBeyondTwenty() {
        AlikeSteps x = read("p;" + "a0,0;".repeat(19));
        due(20, x.lay(2, 0, 0));
        due(FULL, x.lay(2, 0, 0));
        due(20, x.count(2));
        due(1, x.count(4));
        due(19, x.cut(0));
        due(20, x.lay(3, 0, 0));
        due(FULL, x.lay(2, 0, 0));
        due(3, x.arc(19, 0));
        due(2, x.undo());
        due(20, x.lay(0, 0, 0));
    }

    // ---- promise 10

    @Says(in = "Promise 10", words = "An ARC is cut: how many there are.")
    static void cutOfTheFirstTheLastAndTheOnlyOne() {
        AlikeSteps x = read("p;a0,0;b0,0;c0,0;");
        due(2, x.cut(2));
        due(1, x.cut(0));
        due(2, x.arc(0, 0));
        due(0, x.cut(0));
        due(0, x.count(2));
        due(3, x.count(4));
        AlikeSteps y = read("p;" + "a0,0;".repeat(19) + "c0,0;");
        due(19, y.cut(19));
        due(0, y.moves(0, 0, 3));
        due(18, y.cut(0));
    }

    @Says(in = "Promise 10", words = "BAD.")
    static void cutOfNoArc() {
        AlikeSteps x = read("p;a0,0;b0,0;");
        for (int arc : new int[] {-1, 2, 19, 20, MIN, MAX}) {
            due(BAD, x.cut(arc));
        }
        x.cut(0);
        due(BAD, x.cut(1));
        x.cut(0);
        due(BAD, x.cut(0));
        due(2, x.count(4));
        due(BAD, new AlikeSteps().cut(0));
    }

    // ---- promise 11

    @Says(in = "Promise 11", words = "An ARC is turned round: where it goes then.")
    static void turnOfAnArcAndOfOneToItself() {
        AlikeSteps x = read("p;p;p;a0,1;b2,2;");
        due(0, x.turn(0));
        same("p;p;p;a1,0;b2,2;", system(x));
        due(2, x.turn(1));
        same("p;p;p;a1,0;b2,2;", system(x));
        due(2, x.count(4));
        due(1, x.undo());
        due(0, x.undo());
        same("p;p;p;a0,1;b2,2;", system(x));
        AlikeSteps y = read("p;p;" + "a0,1;".repeat(20));
        due(0, y.turn(19));
        due(0, y.arc(18, 1));
        due(1, y.arc(19, 1));
    }

    @Says(in = "Promise 11", words = "BAD.")
    static void turnOfNoArc() {
        AlikeSteps x = read("p;p;a0,1;");
        for (int arc : new int[] {-1, 1, 19, 20, MIN, MAX}) {
            due(BAD, x.turn(arc));
        }
        due(0, x.count(4));
        x.cut(0);
        due(BAD, x.turn(0));
        due(BAD, new AlikeSteps().turn(0));
    }

    // ---- promise 12

    @Says(in = "Promise 12", words = "The KIND (1 to 5) of a STATE is another: what it was.")
    static void becomeOfEachKind() {
        for (int was = 1; was <= 5; was++) {
            for (int kind = 1; kind <= 5; kind++) {
                AlikeSteps x = read("p;" + "pgxdw".charAt(was - 1) + ";");
                due(was == kind ? STATE : was, x.become(1, kind));
                due(kind, x.kind(1));
                due(1, x.kind(0));
            }
        }
        AlikeSteps x = read(TEN);
        due(1, x.become(9, 5));
        due(512, x.count(3));
        due(BAD, x.become(9, 0));
        due(BAD, x.become(9, 6));
        due(5, x.kind(9));
    }

    @Says(in = "Promise 12", words = "BAD;")
    static void becomeOfWhatIsNotThere() {
        AlikeSteps x = read("p;g;");
        for (int state : new int[] {-1, 2, 10, MIN, MAX}) {
            due(BAD, x.become(state, 3));
        }
        for (int kind : new int[] {-1, 0, 6, MIN, MAX}) {
            due(BAD, x.become(0, kind));
        }
        due(0, x.count(4));
        due(BAD, new AlikeSteps().become(0, 1));
    }

    @Says(in = "Promise 12", words = "STATE: it is that.")
    static void becomeOfWhatItIs() {
        AlikeSteps x = read(KINDS);
        for (int s = 0; s < 5; s++) {
            due(STATE, x.become(s, s + 1));
        }
        due(0, x.count(4));
        due(1, x.become(0, 2));
        due(STATE, x.become(0, 2));
        due(1, x.count(4));
    }

    // ---- promise 13

    @Says(in = "Promise 13", words = "The latest ACT is undone: how many can be undone yet.")
    static void undoCountsDown() {
        AlikeSteps x = read("p;");
        x.lay(0, 0, 0);
        x.lay(1, 0, 0);
        due(1, x.undo());
        due(1, x.count(2));
        // another act behind an undone one stands in its place
        x.lay(2, 0, 0);
        due(2, x.count(4));
        due(1, x.undo());
        due(0, x.undo());
        due(0, x.count(2));
        due(0, x.count(4));
    }

    @Says(in = "Promise 13", words = "STATE: none.")
    static void undoOfNothing() {
        due(STATE, new AlikeSteps().undo());
        AlikeSteps x = read("p;a0,0;");
        due(STATE, x.undo());
        x.become(0, 1);
        x.cut(1);
        x.image(0);
        x.feed('p');
        due(STATE, x.undo());
        x.cut(0);
        due(0, x.undo());
        due(STATE, x.undo());
        due(1, x.count(2));
    }

    // ---- promise 14

    @Says(in = "Promise 14", words = "Of an ARC: 0 its LETTER, 1 from where, 2 to where.")
    static void partsOfTheFirstAndTheLastArc() {
        AlikeSteps x = read("p;p;p;b1,2;" + "a0,0;".repeat(18) + "c2,0;");
        int[][] ends = {{0, 2, 1, 2}, {19, 3, 2, 0}};
        for (int[] arc : ends) {
            for (int what = 0; what < 3; what++) {
                due(arc[what + 1], x.arc(arc[0], what));
            }
        }
    }

    @Says(in = "Promise 14", words = "BAD.")
    static void arcOfWhatIsNotThere() {
        AlikeSteps x = read("p;p;c1,0;");
        for (int what : new int[] {-1, 3, MIN, MAX}) {
            due(BAD, x.arc(0, what));
        }
        for (int arc : new int[] {-1, 1, 19, 20, MIN, MAX}) {
            for (int what = 0; what < 3; what++) {
                due(BAD, x.arc(arc, what));
            }
        }
        due(BAD, new AlikeSteps().arc(0, 0));
    }

    // ---- promise 15

    @Says(in = "Promise 15", words = "STATES (bits) to which a STATE MOVES by a RULE (0 to 2), a LETTER.")
    static void movesToNoneAndToAll() {
        AlikeSteps x = read(TEN + "c9,0;c9,1;c9,2;c9,3;c9,4;c9,5;c9,6;c9,7;c9,8;c9,9;");
        for (int rule = 0; rule < 3; rule++) {
            due(1023, x.moves(rule, 9, 3));
            due(0, x.moves(rule, 9, 1));
            due(0, x.moves(rule, 0, 3));
            due(rule == 1 ? 512 : 0, x.moves(rule, 9, 0));
        }
        // as it is by now
        x.cut(9);
        due(511, x.moves(0, 9, 3));
        x.become(9, 3);
        due(0, x.moves(0, 9, 3));
        x.undo();
        due(511, x.moves(0, 9, 3));
        // two acts of two sorts between two questions
        x.cut(8);
        x.become(0, 4);
        due(255, x.moves(0, 9, 3));
        x.become(0, 1);
        x.undo();
        x.undo();
        x.undo();
        due(511, x.moves(0, 9, 3));
    }

    @Says(in = "Promise 15", words = "BAD.")
    static void movesOfWhatIsNotThere() {
        AlikeSteps x = read("p;p;a0,1;");
        for (int rule : new int[] {-1, 3, MIN, MAX}) {
            due(BAD, x.moves(rule, 0, 0));
        }
        for (int state : new int[] {-1, 2, 10, MIN, MAX}) {
            due(BAD, x.moves(0, state, 0));
        }
        for (int letter : new int[] {-1, 4, MIN, MAX}) {
            due(BAD, x.moves(0, 0, letter));
        }
        due(BAD, new AlikeSteps().moves(0, 0, 0));
        due(NONE, x.parted(0, 0, 0));
    }
}
