import java.math.BigInteger;
import java.util.Arrays;

/** Boundary cases of promises 16 to 30: PARTS, FORMULAS, SMALL, WORDS, WALKS, fits, IMAGES. */
public final class AlikeEdgesTest extends Edges {
    private static final String TEN = "p;p;p;p;p;p;p;p;p;p;";
    /** Ten in a chain of nine steps by a: each ROUND parts one more, from the end on. */
    private static final String CHAIN = TEN + "a0,1;a1,2;a2,3;a3,4;a4,5;a5,6;a6,7;a7,8;a8,9;";

    public static void main(String[] args) throws Exception {
        run(AlikeEdgesTest.class, 16, 30);
    }

    // ---- the terms of PARTS

    @Says(in = "Terms", words = "BLOCKS 0, 1, .. of STATES (numbered by their least STATES, in that order)")
    static void blocksAreNumberedByTheirLeastStates() {
        same("0101", blocks(read("g;p;g;p;"), 3));
        same("0010", blocks(read("p;p;g;p;"), 3));
        // the block of the goal has a greater number when one ahead of it is parted
        AlikeSteps x = read("p;p;g;p;a1,1;");
        same("0010", blocksBehind(x, 0, 0));
        same("0120", blocksBehind(x, 0, 1));
        same("0123456789", blocks(read(CHAIN), 0));
    }

    @Says(in = "Terms", words = "In ROUND 0 those that are MARKED, and those that are not, are parted.")
    static void round0PartsTheMarked() {
        for (int rule = 0; rule < 4; rule++) {
            AlikeSteps x = read("p;g;x;d;w;a0,1;t2,3;");
            same("01001", blocksBehind(x, rule, 0));
            same("000", blocksBehind(read("g;w;g;a0,1;"), rule, 0));
            same("000", blocksBehind(read("p;x;d;a0,1;"), rule, 0));
        }
    }

    @Says(in = "Terms", words = "of each BLOCK those are parted that have not the same SIGNS")
    static void thoseOfTwoBlocksStayParted() {
        // neither goes anywhere, so their SIGNS are the same, but one is marked
        AlikeSteps x = read("p;g;p;");
        for (int rule = 0; rule < 3; rule++) {
            same("010", blocks(x, rule));
        }
        due(0, x.signs(0, 0));
        due(0, x.signs(0, 1));
    }

    @Says(in = "Terms", words = "by the BLOCKS ahead of it")
    static void aRoundGoesByTheBlocksAheadOfIt() {
        AlikeSteps x = read("p;p;p;p;a0,1;a1,2;a2,3;");
        for (int rule = 0; rule < 3; rule++) {
            same("0000", blocksBehind(x, rule, 0));
            same("0001", blocksBehind(x, rule, 1));
            same("0012", blocksBehind(x, rule, 2));
            same("0123", blocksBehind(x, rule, 3));
        }
        // the other way round, so that what a round finds first is of no use within it
        AlikeSteps y = read("p;p;p;p;a3,2;a2,1;a1,0;");
        same("0111", blocksBehind(y, 0, 1));
        same("0122", blocksBehind(y, 0, 2));
        same("0123", blocksBehind(y, 0, 3));
    }

    @Says(in = "Terms", words = "; till none are.")
    static void tillNoneAreParted() {
        for (int rule = 0; rule < 3; rule++) {
            due(0, read("p;").parts(rule, 1));
            due(0, read("p;p;").parts(rule, 1));
            due(0, read("p;g;").parts(rule, 1));
            due(9, read(CHAIN).parts(rule, 1));
            due(10, read(CHAIN).parts(rule, 0));
        }
    }

    @Says(in = "Terms", words = "SIGNS of a STATE by RULE 0 and 1: all pairs of a LETTER and a BLOCK to which it MOVES by that.")
    static void signsByRules0And1() {
        AlikeSteps x = read("p;p;g;t0,1;t0,0;a1,2;");
        due(1L | 2L, x.signs(0, 0));
        due(1L << 12, x.signs(0, 1));
        due(0, x.signs(0, 2));
        // by rule 1 each one moves to itself by silent ones
        due(1L | 1L << 11, x.signs(1, 0));
        due(2L, x.signs(1, 2));
    }

    @Says(in = "Terms", words = "or from one to which one comes from it by silent ones alone that stay in its own BLOCK")
    static void rule2StaysAmongItsLike() {
        // 0 goes silently by a goal to 2, that goes by a; 4 goes silently to a goal, too
        AlikeSteps x = read("p;g;p;p;p;g;t0,1;t1,2;a2,3;t4,5;");
        due(2, x.parted(2, 0, 4));
        due(1, x.parted(1, 0, 4));
        // 0 goes silently to 1 and 2, one behind the other, and has what 2 has
        AlikeSteps y = read("p;p;p;g;t0,1;t1,2;a2,3;");
        same("0001", blocks(y, 2));
        for (int s = 0; s < 3; s++) {
            due(1L << 11, y.signs(2, s));
        }
        // nine of them
        AlikeSteps z = read("p;".repeat(9) + "g;t0,1;t1,2;t2,3;t3,4;t4,5;t5,6;t6,7;t7,8;a8,9;");
        same("0000000001", blocks(z, 2));
        due(1L << 11, z.signs(2, 0));
    }

    @Says(in = "Terms", words = "but not 0 and its own BLOCK")
    static void rule2LeavesSilentOnesAmongItsLikeOut() {
        AlikeSteps x = read("p;p;t0,1;");
        due(1, x.parts(2, 0));
        due(0, x.signs(2, 0));
        due(2, x.parts(0, 0));
        due(0, read("p;t0,0;").signs(2, 0));
        due(1, read("p;t0,0;").signs(0, 0));
        // another letter, or another block, stays in
        due(1L << 10, read("p;a0,0;").signs(2, 0));
        due(2L, read("p;g;t0,1;").signs(2, 0));
        due(1L, read("p;g;t1,0;").signs(2, 1));
        due(1L << 30 | 1L, read("p;g;c1,0;t1,0;t1,1;").signs(2, 1));
    }

    @Says(in = "Terms", words = "RULE 3: ROUND 0 alone.")
    static void rule3IsRound0Alone() {
        AlikeSteps x = read(CHAIN);
        same("0000000000", blocks(x, 3));
        due(0, x.parts(3, 1));
        due(1, x.parts(3, 0));
        x.become(9, 5);
        same("0000000001", blocks(x, 3));
        due(0, x.parts(3, 1));
        due(2, x.parts(3, 0));
    }

    @Says(in = "Terms", words = "ROUNDS: how many there are behind ROUND 0 that part any.")
    static void roundsThatPartAny() {
        due(0, read("p;g;").parts(0, 1));
        due(1, read("p;p;a0,1;").parts(0, 1));
        due(1, read("p;p;p;p;a0,1;b2,3;").parts(0, 1));
        due(2, read("p;p;p;a0,1;a1,2;").parts(0, 1));
    }

    @Says(in = "Terms", words = "PARTED IN: the first ROUND behind which two are in BLOCKS that are not the same")
    static void theFirstRoundThatParts() {
        AlikeSteps x = read(CHAIN);
        for (int p = 0; p < 9; p++) {
            for (int q = p + 1; q < 10; q++) {
                due(10 - q, x.parted(0, p, q));
                due(10 - q, x.parted(0, q, p));
            }
        }
        x.become(9, 2);
        due(0, x.parted(0, 8, 9));
        due(1, x.parted(0, 0, 8));
        due(8, x.parted(0, 0, 1));
    }

    // ---- the terms of FORMULAS

    @Says(in = "Terms", words = "a (0 to 3), then a LIST")
    static void lettersOfFormulas() {
        AlikeSteps x = read("p;t0,0;a0,0;b0,0;c0,0;");
        for (int a = 0; a <= 3; a++) {
            due(1, formula(x, 0, 0, a, 10));
        }
        due(NONE, formula(x, 0, 0, 4, 10));
        due(NONE, formula(x, 0, 0, -1, 10));
        due(NONE, formula(x, 0, 0, 256, 10));
        due(NONE, formula(x, 0, 0, 1));
        due(NONE, formula(x, 0, 0, 1, 30));
        due(NONE, formula(x, 0, 0, 1, 1, 10));
    }

    @Says(in = "Terms", words = "there is a MOVE by LETTER a to a STATE for which all of the LIST holds")
    static void allOfTheListForOneState() {
        AlikeSteps x = read("p;g;p;a0,1;a0,2;b2,2;");
        due(1, formula(x, 0, 0, 1, 11, 30));
        due(1, formula(x, 0, 0, 1, 11, 2, 10));
        // each of them holds of one, but of none all
        due(0, formula(x, 0, 0, 1, 12, 30, 2, 10));
        due(1, formula(x, 0, 0, 1, 12, 20, 30, 2, 10));
        // no move: the list is of no use, be it empty
        due(0, formula(x, 0, 1, 1, 10));
        due(0, formula(x, 0, 0, 2, 10));
    }

    @Says(in = "Terms", words = "30 the STATE is MARKED")
    static void code30() {
        AlikeSteps x = read("p;g;");
        due(0, formula(x, 0, 0, 30));
        due(1, formula(x, 0, 1, 30));
        due(NONE, formula(x, 0, 1, 29));
        due(NONE, formula(x, 0, 1, 31));
        due(NONE, formula(x, 0, 1, 286));
        due(NONE, formula(x, 0, 1, MAX));
        due(NONE, formula(x, 0, 1, MIN));
    }

    @Says(in = "Terms", words = "20, then a FORMULA: that does not hold")
    static void code20() {
        AlikeSteps x = read("p;g;a0,1;");
        due(1, formula(x, 0, 0, 20, 30));
        due(0, formula(x, 0, 1, 20, 30));
        due(0, formula(x, 0, 0, 20, 1, 11, 30));
        due(1, formula(x, 0, 1, 20, 20, 30));
        due(NONE, formula(x, 0, 1, 20));
        due(NONE, formula(x, 0, 1, 20, 20));
        due(NONE, formula(x, 0, 1, 20, 10));
        due(NONE, formula(x, 0, 1, 21, 30));
        int[] deepest = new int[30];
        Arrays.fill(deepest, 20);
        deepest[29] = 30;
        due(0, formula(x, 0, 1, deepest));
        due(1, formula(x, 0, 0, deepest));
    }

    @Says(in = "Terms", words = "LIST: 10 and n (0 to 9), then n FORMULAS.")
    static void listsOf0To9() {
        AlikeSteps x = read("p;g;a0,1;");
        int[] codes = {1, 19, 30, 30, 30, 30, 30, 30, 30, 30, 30};
        for (int n = 0; n <= 9; n++) {
            codes[1] = 10 + n;
            due(1, formula(x, 0, 0, Arrays.copyOf(codes, 2 + n)));
            due(NONE, formula(x, 0, 0, Arrays.copyOf(codes, 3 + n)));
            if (n > 0) {
                due(NONE, formula(x, 0, 0, Arrays.copyOf(codes, 1 + n)));
            }
        }
        due(NONE, formula(x, 0, 0, 1, 9));
        due(NONE, formula(x, 0, 0, 1, 20, 30, 30, 30, 30, 30, 30, 30, 30, 30, 30));
        due(NONE, formula(x, 0, 0, 10));
        due(NONE, formula(x, 0, 0, 11, 30));
        due(NONE, formula(x, 0, 0, 12, 30));
        due(NONE, formula(x, 0, 0, 19, 30));
        due(NONE, formula(x, 0, 0, 20, 12, 30));
        due(NONE, formula(x, 0, 0, 1, 11, 12, 30));
        due(NONE, formula(x, 0, 0, 1, 11, 10));
        due(NONE, formula(x, 0, 0, 1, 10, 10));
    }

    @Says(in = "Terms", words = "By a RULE (0, 1) a FORMULA holds of a STATE, or not.")
    static void formulasByTwoRules() {
        AlikeSteps x = read("p;p;g;t0,1;a1,2;");
        due(0, formula(x, 0, 0, 1, 10));
        due(1, formula(x, 1, 0, 1, 10));
        due(0, formula(x, 0, 2, 0, 10));
        due(1, formula(x, 1, 2, 0, 10));
    }

    @Says(in = "Terms", words = "r 0: 30, if the first is MARKED, else 20, 30.")
    static void tellsByWhatIsMarked() {
        AlikeSteps x = read("p;g;a0,1;a0,0;");
        for (int rule = 0; rule < 2; rule++) {
            told(x, rule, 1, 0, 30);
            told(x, rule, 0, 1, 20, 30);
        }
    }

    @Says(in = "Terms", words = "to a STATE that is PARTED IN a ROUND below r from each one to which the second MOVES by that")
    static void tellsByRoundsBelow() {
        // 2 and 4 are parted in the same round as 0 and 1: so it must go by the goal
        AlikeSteps x = read("p;p;p;g;p;a0,2;b2,2;a1,3;a1,4;");
        due(1, x.parted(0, 0, 1));
        due(1, x.parted(0, 2, 4));
        told(x, 0, 0, 1, 20, 1, 11, 30);
        told(x, 0, 1, 0, 1, 11, 30);
        // from each one, not from some
        AlikeSteps y = read("p;p;g;p;g;a0,2;b0,2;a1,3;a1,4;b1,3;");
        told(y, 0, 0, 1, 2, 11, 30);
    }

    @Says(in = "Terms", words = "the least such LETTER")
    static void tellsByTheLeastLetter() {
        AlikeSteps x = read("p;p;c0,0;b0,0;a0,0;t0,0;");
        told(x, 0, 0, 1, 0, 10);
        x.cut(3);
        told(x, 0, 0, 1, 1, 10);
        x.cut(2);
        told(x, 0, 0, 1, 2, 10);
        x.cut(1);
        told(x, 0, 0, 1, 3, 10);
        x.cut(0);
        due(NONE, x.tells(0, 0, 1, -1));
    }

    @Says(in = "Terms", words = "and the least such STATE: that LETTER")
    static void tellsByTheLeastState() {
        AlikeSteps x = read("p;p;p;p;p;a0,2;a0,3;a1,4;b2,2;c3,3;");
        due(2, x.parted(0, 0, 1));
        told(x, 0, 0, 1, 1, 11, 2, 10);
        AlikeSteps y = read("p;p;p;p;p;a0,3;a0,2;a1,4;c2,2;b3,3;");
        told(y, 0, 0, 1, 1, 11, 3, 10);
        // STATE 0, and STATE 9
        told(read("g;p;p;a1,0;a2,2;"), 0, 1, 2, 1, 11, 30);
        told(read("p;".repeat(9) + "g;a1,9;a2,2;"), 0, 1, 2, 1, 11, 30);
    }

    @Says(in = "Terms", words = "10 and how many the second MOVES to by that")
    static void tellsOf0To9() {
        // 0 goes to the goal, 1 to as many as are laid
        AlikeSteps x = read("p;p;p;p;p;p;p;p;p;g;a0,9;");
        told(x, 0, 0, 1, 1, 10);
        for (int n = 1; n <= 9; n++) {
            x.lay(1, 1, n - 1);
            int[] codes = new int[2 + n];
            Arrays.fill(codes, 30);
            codes[0] = 1;
            codes[1] = 10 + n;
            told(x, 0, 0, 1, codes);
        }
    }

    @Says(in = "Terms", words = "then of each of these, from the least on, what TELLS the first's one from it")
    static void tellsOfEachFromTheLeastOn() {
        AlikeSteps x = read("p;p;p;g;p;g;a0,2;a0,5;a1,3;a1,4;b2,2;");
        due(2, x.parted(0, 0, 1));
        told(x, 0, 0, 1, 1, 12, 20, 30, 2, 10);
        AlikeSteps y = read("p;p;p;p;g;g;a0,2;a0,5;a1,3;a1,4;b2,2;");
        told(y, 0, 0, 1, 1, 12, 2, 10, 20, 30);
    }

    @Says(in = "Terms", words = "Else 20, then what TELLS the second from the first.")
    static void tellsTheOtherWayRound() {
        AlikeSteps x = read("p;p;p;a1,2;");
        told(x, 0, 0, 1, 20, 1, 10);
        told(x, 0, 1, 0, 1, 10);
        // within another one
        AlikeSteps y = read("p;p;p;p;p;a0,2;a1,3;b3,4;");
        told(y, 0, 0, 1, 1, 11, 20, 2, 10);
        told(y, 0, 1, 0, 1, 11, 2, 10);
    }

    // ---- the terms of SMALL, WORDS, WALKS

    @Says(in = "Terms", words = "by RULE 1 and 2 not from one to itself by silent ones")
    static void smallHasNoSilentOnesToItself() {
        AlikeSteps x = read("p;p;g;t0,1;t1,0;a0,1;a1,0;t0,2;t1,2;");
        int[] silent = {3, 2, 2};
        for (int rule = 0; rule < 3; rule++) {
            due(silent[rule], x.small(rule, 0, 0));
            due(1, x.small(rule, 0, 1));
        }
        // the last block, too
        AlikeSteps z = read("g;p;p;t1,1;t2,1;t2,0;t1,0;");
        for (int rule = 0; rule < 3; rule++) {
            due(rule == 0 ? 3 : 1, z.small(rule, 1, 0));
        }
        // by other letters one goes from a block to itself
        AlikeSteps y = read("p;t0,0;c0,0;");
        for (int rule = 0; rule < 3; rule++) {
            due(rule == 0 ? 1 : 0, y.small(rule, 0, 0));
            due(1, y.small(rule, 0, 3));
        }
    }

    @Says(in = "Terms", words = "to which BLOCKS one GOES by a LETTER from any STATE of one")
    static void smallIsOfAnyStateOfABlock() {
        // alike by rules 1 and 2, though 0 goes by a, and 1 by b
        AlikeSteps x = read("p;p;g;t0,1;t1,0;a0,2;b1,2;");
        for (int rule = 1; rule < 3; rule++) {
            due(2, x.parts(rule, 0));
            due(2, x.small(rule, 0, 1));
            due(2, x.small(rule, 0, 2));
            due(0, x.small(rule, 0, 3));
            due(0, x.small(rule, 1, 1));
        }
        // as one GOES, not as one MOVES
        AlikeSteps y = read("p;g;g;t0,1;a1,2;");
        due(0, y.small(1, 0, 1));
        due(2, y.small(1, 0, 0));
    }

    @Says(in = "Terms", words = "WORDS of n (0 to 6) from a STATE")
    static void wordsOf0To6() {
        AlikeSteps x = read("p;x;a0,0;b0,0;c0,0;");
        int all = 1;
        for (int n = 0; n <= 6; n++) {
            due(all, x.words(0, n));
            due(n == 0 ? 1 : 0, x.words(1, n));
            all *= 3;
        }
        due(729, x.words(0, 6));
        due(BAD, x.words(0, 7));
        due(BAD, x.words(0, -1));
    }

    @Says(in = "Terms", words = "how many rows of n LETTERS above 0 can be gone one behind the other, with any silent ones between")
    static void wordsAreRowsOfLettersNotWays() {
        AlikeSteps x = read("p;p;p;p;t0,1;t1,2;a0,3;a2,3;b2,3;t3,0;");
        due(2, x.words(0, 1));
        due(4, x.words(0, 2));
        due(64, x.words(0, 6));
        due(0, read("p;t0,0;").words(0, 1));
        AlikeSteps y = read("p;p;p;a0,1;a1,2;");
        due(1, y.words(0, 2));
        due(0, y.words(0, 3));
        // from a state, not to one: back to a door
        due(1, read("p;d;a1,0;").words(0, 6));
        // eight silent ones ahead of the letter
        due(1, read(TEN + "t8,7;t7,6;t6,5;t5,4;t4,3;t3,2;t2,1;t1,0;c0,9;").words(8, 1));
    }

    /** Four states, each of which goes by a to each: so a walk ends at X modulo 4. */
    private static AlikeSteps fours() {
        StringBuilder text = new StringBuilder("p;p;p;p;");
        for (int from = 0; from < 4; from++) {
            for (int to = 3; to >= 0; to--) {
                text.append('a').append(from).append(',').append(to).append(';');
            }
        }
        return read(text.toString());
    }

    @Says(in = "Terms", words = "A WALK of n steps (0 to 60) by a SEED (X at first)")
    static void walksOf0To60() {
        AlikeSteps x = fours();
        for (int seed : new int[] {1, 2, 127773, 127774, 999999}) {
            BigInteger at = BigInteger.valueOf(seed);
            due(3, x.walk(3, 0, seed));
            for (int n = 1; n <= 60; n++) {
                at = at.multiply(BigInteger.valueOf(16807)).mod(BigInteger.valueOf(2147483647));
                due(at.mod(BigInteger.valueOf(4)).intValue(), x.walk(3, n, seed));
            }
        }
    }

    @Says(in = "Terms", words = "how many there are of all pairs of a LETTER and a STATE to which one GOES by that (by LETTERS, then STATES)")
    static void walksByPairsInTheirOrder() {
        // t2 t5 a1 a5 b4 c3, though told in another order, and one of them twice; X is 16807 times the seed
        AlikeSteps x = read("p;p;p;p;p;p;c0,3;b0,4;a0,5;a0,1;t0,5;t0,2;a0,1;");
        int[] ends = {2, 5, 1, 5, 4, 3};
        for (int seed = 1; seed <= 12; seed++) {
            due(ends[seed * 16807 % 6], x.walk(0, 1, seed));
        }
        // back to a door: a1, b1
        AlikeSteps y = read("p;d;p;a1,0;b1,0;a0,2;");
        for (int seed = 1; seed <= 6; seed++) {
            due(new int[] {1, 2, 1}[seed * 16807 % 3], y.walk(0, 1, seed));
        }
    }

    @Says(in = "Terms", words = "if there is none, one stays")
    static void walksThatStay() {
        AlikeSteps x = read("p;x;p;a0,1;a1,0;");
        due(1, x.walk(0, 1, 5));
        due(1, x.walk(0, 60, 5));
        due(1, x.walk(1, 60, 999999));
        due(2, x.walk(2, 60, 1));
    }

    // ---- promise 16

    @Says(in = "Promise 16", words = "The BLOCK of a STATE by a RULE (0 to 3).")
    static void blockByEachRule() {
        AlikeSteps x = read("p;p;g;t0,1;a1,2;");
        same("012", blocks(x, 0));
        same("001", blocks(x, 1));
        same("001", blocks(x, 2));
        same("001", blocks(x, 3));
        // a.(b + t.c) + a.c and a.(b + t.c)
        AlikeSteps y = read("p;p;p;p;p;p;a0,1;t1,2;b1,5;c2,5;a3,4;t4,2;b4,5;a3,2;");
        due(0, y.block(1, 3));
        due(3, y.block(2, 3));
        due(9, read(CHAIN).block(0, 9));
    }

    @Says(in = "Promise 16", words = "BAD.")
    static void blockOfWhatIsNotThere() {
        AlikeSteps x = read("p;p;");
        for (int rule : new int[] {-1, 4, MIN, MAX}) {
            due(BAD, x.block(rule, 0));
        }
        for (int state : new int[] {-1, 2, 10, MIN, MAX}) {
            due(BAD, x.block(0, state));
        }
        due(BAD, new AlikeSteps().block(3, 0));
    }

    // ---- promise 17

    @Says(in = "Promise 17", words = "Of a RULE (0 to 3): 0 how many BLOCKS, 1 ROUNDS.")
    static void partsFromOneToTen() {
        AlikeSteps x = read(CHAIN);
        for (int rule = 0; rule < 4; rule++) {
            due(rule == 3 ? 1 : 10, x.parts(rule, 0));
            due(rule == 3 ? 0 : 9, x.parts(rule, 1));
            due(1, read(TEN).parts(rule, 0));
            due(0, read(TEN).parts(rule, 1));
            due(1, read("w;").parts(rule, 0));
        }
    }

    @Says(in = "Promise 17", words = "BAD;")
    static void partsOfWhatIsNotThere() {
        AlikeSteps x = read("p;");
        for (int rule : new int[] {-1, 4, MIN, MAX}) {
            due(BAD, x.parts(rule, 0));
        }
        for (int what : new int[] {-1, 2, MIN, MAX}) {
            due(BAD, x.parts(0, what));
        }
    }

    @Says(in = "Promise 17", words = "STATE: no SYSTEM (ahead of BAD).")
    static void partsOfNoSystem() {
        AlikeSteps x = new AlikeSteps();
        due(STATE, x.parts(0, 0));
        due(STATE, x.parts(-1, 0));
        due(STATE, x.parts(4, 0));
        due(STATE, x.parts(0, 2));
        due(STATE, x.parts(4, 2));
        x.system();
        due(STATE, x.parts(3, 1));
    }

    // ---- promise 18

    @Says(in = "Promise 18", words = "BLOCKS of a RULE behind n ROUNDS (0 to 20;")
    static void behind0To20Rounds() {
        AlikeSteps x = read(CHAIN);
        for (int n = 0; n <= 20; n++) {
            due(Math.min(n, 9), x.behind(0, n, 9));
            due(Math.min(n, 9) == 9 ? 1 : 0, x.behind(1, n, 1));
            due(0, x.behind(2, n, 0));
            due(0, x.behind(3, n, 9));
        }
        due(BAD, x.behind(0, -1, 0));
        due(BAD, x.behind(0, 21, 0));
        due(BAD, x.behind(0, MIN, 0));
        due(BAD, x.behind(0, MAX, 0));
    }

    @Says(in = "Promise 18", words = "beyond the last: as behind that")
    static void behindMoreRoundsThanThereAre() {
        AlikeSteps x = read("p;p;p;a0,1;a1,2;");
        for (int n = 2; n <= 20; n++) {
            same("012", blocksBehind(x, 0, n));
        }
        AlikeSteps y = read("g;p;");
        // a larger system ahead of it leaves nothing behind
        AlikeSteps z = read(CHAIN);
        due(9, z.behind(0, 9, 9));
        reread(z, "g;p;");
        for (int rule = 0; rule < 4; rule++) {
            for (int n = 0; n <= 20; n += 4) {
                same("01", blocksBehind(y, rule, n));
                same("01", blocksBehind(z, rule, n));
            }
        }
    }

    @Says(in = "Promise 18", words = "BAD.")
    static void behindOfWhatIsNotThere() {
        AlikeSteps x = read("p;p;");
        for (int rule : new int[] {-1, 4, MIN, MAX}) {
            due(BAD, x.behind(rule, 0, 0));
        }
        for (int state : new int[] {-1, 2, 10, MIN, MAX}) {
            due(BAD, x.behind(0, 0, state));
        }
        due(BAD, new AlikeSteps().behind(0, 0, 0));
    }

    // ---- promise 19

    @Says(in = "Promise 19", words = "by the BLOCKS at last: the bit 10 times the LETTER and the BLOCK for each.")
    static void signsFromBit0ToBit39() {
        due(1L, read("p;t0,0;").signs(0, 0));
        AlikeSteps x = read(CHAIN + "c8,9;");
        for (int rule = 0; rule < 3; rule++) {
            long silent = rule == 1 ? 1L << 8 : 0;
            due(1L << 19 | 1L << 39 | silent, x.signs(rule, 8));
            due(rule == 1 ? 1L << 9 : 0, x.signs(rule, 9));
        }
        // nine ROUNDS: by the BLOCKS behind the ninth, not behind the eighth
        AlikeSteps y = read(CHAIN);
        for (int s = 0; s < 9; s++) {
            due(1L << 11 + s, y.signs(0, s));
        }
        AlikeSteps z = read("p;a0,0;b0,0;c0,0;t0,0;");
        due(1L | 1L << 10 | 1L << 20 | 1L << 30, z.signs(0, 0));
    }

    @Says(in = "Promise 19", words = "BAD.")
    static void signsOfWhatIsNotThere() {
        AlikeSteps x = read("p;p;");
        for (int rule : new int[] {-1, 3, 4, MIN, MAX}) {
            due(BAD, x.signs(rule, 0));
        }
        for (int state : new int[] {-1, 2, 10, MIN, MAX}) {
            due(BAD, x.signs(0, state));
        }
        due(BAD, new AlikeSteps().signs(0, 0));
    }

    // ---- promise 20

    @Says(in = "Promise 20", words = "PARTED IN; NONE.")
    static void partedInOrNone() {
        AlikeSteps x = read("p;g;p;p;a0,1;a2,1;");
        for (int rule = 0; rule < 4; rule++) {
            for (int s = 0; s < 4; s++) {
                due(NONE, x.parted(rule, s, s));
            }
            due(NONE, x.parted(rule, 0, 2));
            due(0, x.parted(rule, 0, 1));
            due(0, x.parted(rule, 1, 0));
            due(rule == 3 ? NONE : 1, x.parted(rule, 0, 3));
        }
        due(9, read(CHAIN).parted(2, 1, 0));
    }

    @Says(in = "Promise 20", words = "BAD.")
    static void partedOfWhatIsNotThere() {
        AlikeSteps x = read("p;p;");
        for (int rule : new int[] {-1, 4, MIN, MAX}) {
            due(BAD, x.parted(rule, 0, 0));
        }
        for (int state : new int[] {-1, 2, 10, MIN, MAX}) {
            due(BAD, x.parted(0, state, 0));
            due(BAD, x.parted(0, 0, state));
        }
        due(BAD, new AlikeSteps().parted(0, 0, 0));
    }

    // ---- promise 21

    /** Of these what tells 4 from 0 has 9998 codes, 1 from 4 has 9999. */
    private static final String LONG = "d;d;d;d;p;d;p;p;p;p;a0,1;t1,2;a2,3;a3,4;a4,5;a5,6;a6,7;a7,8;a8,9;t7,6;t3,0;t0,2;";
    /** Of these what tells 1 from 3 has 10000 codes. */
    private static final String LONGER = "p;d;p;d;p;p;p;p;p;g;a0,1;t1,2;t2,3;a3,4;a4,5;a5,6;a6,7;a7,8;a8,9;a6,7;a5,5;a1,3;t2,0;";

    private static Model model(String text) {
        Model m = new Model();
        for (char c : text.toCharArray()) {
            m.feed(c);
        }
        m.system();
        return m;
    }

    @Says(in = "Promise 21", words = "how many CODES (j = -1; 9999, if there are more)")
    static void tellsHowManyUpTo9999() {
        AlikeSteps x = read(LONG);
        due(9998, x.tells(1, 4, 0, -1));
        due(9999, x.tells(1, 1, 4, -1));
        due(9999, read(LONGER).tells(1, 1, 3, -1));
        due(9998, model(LONG).tells(1, 4, 0, -1));
        due(9999, model(LONGER).tells(1, 1, 3, -1));
        due(1, read("p;g;").tells(0, 1, 0, -1));
        due(BAD, x.tells(1, 4, 0, -2));
        due(BAD, x.tells(1, 4, 0, MIN));
    }

    @Says(in = "Promise 21", words = "the j-th (0 to 9998; NONE: not so many)")
    static void tellsTheJth() {
        AlikeSteps x = read(LONG);
        Model m = model(LONG);
        for (int j : new int[] {0, 1, 2, 3, 5000, 9990, 9996, 9997, 9998}) {
            due(m.tells(1, 4, 0, j), x.tells(1, 4, 0, j));
            due(m.tells(1, 1, 4, j), x.tells(1, 1, 4, j));
        }
        due(0, x.tells(1, 4, 0, 9997) == NONE ? 1 : 0);
        due(NONE, x.tells(1, 4, 0, 9998));
        due(0, x.tells(1, 1, 4, 9998) == NONE ? 1 : 0);
        due(model(LONGER).tells(1, 1, 3, 9998), read(LONGER).tells(1, 1, 3, 9998));
        due(BAD, x.tells(1, 1, 4, 9999));
        due(BAD, x.tells(1, 1, 4, MAX));
        AlikeSteps y = read("p;g;");
        due(30, y.tells(0, 1, 0, 0));
        due(NONE, y.tells(0, 1, 0, 1));
        due(NONE, y.tells(0, 1, 0, 9998));
        due(30, y.tells(0, 0, 1, 1));
        due(NONE, y.tells(0, 0, 1, 2));
    }

    @Says(in = "Promise 21", words = "NONE: they are ALIKE.")
    static void tellsOfThoseThatAreAlike() {
        AlikeSteps x = read("p;p;g;t0,1;a1,2;");
        for (int j : new int[] {-1, 0, 1, 9998}) {
            due(NONE, x.tells(1, 0, 1, j));
            due(NONE, x.tells(1, 1, 0, j));
            due(NONE, x.tells(0, 0, 0, j));
        }
        due(2, x.tells(0, 0, 1, -1));
        due(BAD, x.tells(1, 0, 1, 9999));
        due(BAD, x.tells(1, 0, 1, -2));
    }

    @Says(in = "Promise 21", words = "BAD.")
    static void tellsOfWhatIsNotThere() {
        AlikeSteps x = read("p;g;");
        for (int rule : new int[] {-1, 2, 3, MIN, MAX}) {
            due(BAD, x.tells(rule, 0, 1, -1));
        }
        for (int state : new int[] {-1, 2, 10, MIN, MAX}) {
            due(BAD, x.tells(0, state, 0, -1));
            due(BAD, x.tells(0, 0, state, -1));
        }
        due(BAD, new AlikeSteps().tells(0, 0, 0, -1));
    }

    // ---- promise 22

    @Says(in = "Promise 22", words = "How deep it is: the most MOVES, one within the other")
    static void depthFrom0To9() {
        AlikeSteps x = read("g;p;");
        due(0, x.depth(0, 0, 1));
        due(0, x.depth(1, 1, 0));
        AlikeSteps y = read(CHAIN);
        for (int q = 1; q < 10; q++) {
            due(10 - q, y.depth(0, 0, q));
            due(10 - q, y.depth(1, q, 0));
        }
        // the deepest of a list counts: 2 10, one deep, and 20 30, none
        AlikeSteps z = read("p;p;p;g;p;g;a0,2;a0,5;a1,3;a1,4;b2,2;");
        told(z, 0, 0, 1, 1, 12, 20, 30, 2, 10);
        due(2, z.depth(0, 0, 1));
        // one that has more codes than are counted
        due(read(LONGER).parted(1, 1, 3), read(LONGER).depth(1, 1, 3));
    }

    @Says(in = "Promise 22", words = "NONE: they are ALIKE.")
    static void depthOfThoseThatAreAlike() {
        AlikeSteps x = read("p;p;g;t0,1;a1,2;");
        due(NONE, x.depth(1, 0, 1));
        due(NONE, x.depth(0, 2, 2));
        due(1, x.depth(0, 0, 1));
    }

    @Says(in = "Promise 22", words = "BAD.")
    static void depthOfWhatIsNotThere() {
        AlikeSteps x = read("p;g;");
        for (int rule : new int[] {-1, 2, 3, MIN, MAX}) {
            due(BAD, x.depth(rule, 0, 1));
        }
        for (int state : new int[] {-1, 2, 10, MIN, MAX}) {
            due(BAD, x.depth(0, state, 0));
            due(BAD, x.depth(0, 0, state));
        }
        due(BAD, new AlikeSteps().depth(0, 0, 0));
    }

    // ---- promise 23

    @Says(in = "Promise 23", words = "n ITEMS (1 to 30) of a ROW from 0 on")
    static void holdsOf1To30Items() {
        AlikeSteps x = read("p;g;a0,1;");
        x.row(0, 1, 40);
        for (int i = 0; i < 40; i++) {
            x.set(0, i, 20);
        }
        for (int n = 1; n <= 30; n++) {
            x.set(0, n - 1, 30);
            due(n % 2, x.holds(0, 1, 0, n));
            due(1 - n % 2, x.holds(1, 0, 0, n));
            x.set(0, n - 1, 20);
        }
        x.set(0, 30, 30);
        due(BAD, x.holds(0, 1, 0, 31));
        due(BAD, x.holds(0, 1, 0, 0));
        // ITEMS behind the n-th are of no use
        fill(x, 1, 0, 30, 99);
        due(1, x.holds(0, 1, 1, 1));
        due(NONE, x.holds(0, 1, 1, 2));
    }

    @Says(in = "Promise 23", words = "NONE: these are not just one FORMULA.")
    static void holdsOfNoneOrOfTwo() {
        AlikeSteps x = read("p;g;a0,1;");
        due(NONE, formula(x, 0, 1, 30, 30));
        due(NONE, formula(x, 0, 1, 1, 10, 30));
        due(NONE, formula(x, 0, 1, 30, 20));
        due(NONE, formula(x, 0, 1, 20));
        due(NONE, formula(x, 0, 1, 1, 11));
        due(NONE, formula(x, 0, 1, 1, 12, 30));
        due(NONE, formula(x, 0, 1, 99));
        due(NONE, formula(x, 0, 1, 1, 11, 99));
        // not for want of a move
        due(NONE, formula(x, 0, 1, 3, 11, 20));
        due(0, x.status());
        // a whole row of 30, none of them one
        int[] many = new int[30];
        Arrays.fill(many, 30);
        due(NONE, formula(x, 0, 1, many));
        Arrays.fill(many, 0);
        due(NONE, formula(x, 0, 1, many));
        Arrays.fill(many, 10);
        due(NONE, formula(x, 0, 1, many));
        Arrays.fill(many, 20);
        due(NONE, formula(x, 0, 1, many));
    }

    @Says(in = "Promise 23", words = "BAD: RULE, STATE, ROW, n;")
    static void holdsOfWhatIsNotThere() {
        AlikeSteps x = read("p;g;");
        fill(x, 0, 0, 30, 30);
        for (int rule : new int[] {-1, 2, 3, MIN, MAX}) {
            due(BAD, x.holds(rule, 0, 0, 1));
        }
        for (int state : new int[] {-1, 2, 10, MIN, MAX}) {
            due(BAD, x.holds(0, state, 0, 1));
        }
        for (int row : new int[] {-1, 8, MIN, MAX}) {
            due(BAD, x.holds(0, 0, row, 1));
        }
        for (int n : new int[] {-1, 0, 31, MIN, MAX}) {
            due(BAD, x.holds(0, 0, 0, n));
        }
        fill(x, 7, 0, 30);
        due(1, x.holds(1, 1, 7, 1));
        due(BAD, new AlikeSteps().holds(0, 0, 0, 1));
    }

    @Says(in = "Promise 23", words = "NULL;")
    static void holdsOfAMissingRow() {
        AlikeSteps x = read("p;");
        due(NULL, x.holds(0, 0, 0, 1));
        due(NULL, x.holds(0, 0, 7, 30));
        due(1, x.status());
    }

    @Says(in = "Promise 23", words = "NULL; PLACE.")
    static void holdsOfMoreThanARowHas() {
        AlikeSteps x = read("p;g;");
        fill(x, 0, 0, 20, 30);
        due(PLACE, x.holds(0, 0, 0, 3));
        due(2, x.status());
        due(PLACE, x.holds(0, 0, 0, 30));
        due(1, x.holds(0, 0, 0, 2));
        x.row(1, 0, 0);
        due(PLACE, x.holds(0, 0, 1, 1));
    }

    // ---- promise 24

    @Says(in = "Promise 24", words = "SMALL: BLOCKS (bits) to which one GOES from a BLOCK by a LETTER.")
    static void smallOfTheFirstAndTheLastBlock() {
        AlikeSteps x = read(CHAIN + "c9,0;c9,9;");
        for (int rule = 0; rule < 3; rule++) {
            due(2, x.small(rule, 0, 1));
            due(1 | 512, x.small(rule, 9, 3));
            due(0, x.small(rule, 9, 0));
        }
        due(0, read("p;").small(0, 0, 3));
    }

    @Says(in = "Promise 24", words = "BAD.")
    static void smallOfWhatIsNotThere() {
        AlikeSteps x = read("p;g;g;");
        for (int rule : new int[] {-1, 3, 4, MIN, MAX}) {
            due(BAD, x.small(rule, 0, 0));
        }
        // three states, but two blocks
        for (int block : new int[] {-1, 2, 3, 10, MIN, MAX}) {
            due(BAD, x.small(0, block, 0));
        }
        for (int letter : new int[] {-1, 4, MIN, MAX}) {
            due(BAD, x.small(0, 0, letter));
        }
        due(0, x.small(0, 1, 3));
        due(BAD, new AlikeSteps().small(0, 0, 0));
    }

    // ---- promise 25

    @Says(in = "Promise 25", words = "How many pairs of a LETTER and a BLOCK there are in SMALL, from all BLOCKS together.")
    static void arcsOfSmall() {
        for (int rule = 0; rule < 3; rule++) {
            due(0, read("p;").arcs(rule));
            due(rule == 0 ? 1 : 0, read("p;t0,0;").arcs(rule));
            due(9, read(CHAIN).arcs(rule));
            // once, though two go, and by two arcs
            due(1, read("p;p;g;a0,2;a1,2;a0,2;").arcs(rule));
            due(3, read("p;a0,0;b0,0;c0,0;").arcs(rule));
        }
    }

    @Says(in = "Promise 25", words = "BAD;")
    static void arcsOfNoSuchRule() {
        AlikeSteps x = read("p;");
        for (int rule : new int[] {-1, 3, 4, MIN, MAX}) {
            due(BAD, x.arcs(rule));
        }
    }

    @Says(in = "Promise 25", words = "STATE: no SYSTEM (ahead of BAD).")
    static void arcsOfNoSystem() {
        AlikeSteps x = new AlikeSteps();
        for (int rule : new int[] {0, 2, -1, 3, MIN, MAX}) {
            due(STATE, x.arcs(rule));
        }
    }

    // ---- promise 26

    @Says(in = "Promise 26", words = "WORDS. BAD.")
    static void wordsOfWhatIsNotThere() {
        AlikeSteps x = read("p;p;a0,1;");
        for (int state : new int[] {-1, 2, 10, MIN, MAX}) {
            due(BAD, x.words(state, 0));
        }
        for (int n : new int[] {-1, 7, MIN, MAX}) {
            due(BAD, x.words(0, n));
        }
        due(1, x.words(0, 0));
        due(0, x.words(1, 6));
        due(BAD, new AlikeSteps().words(0, 0));
    }

    // ---- promise 27

    @Says(in = "Promise 27", words = "by a SEED (1 to 999999): where it ends.")
    static void walksBySeedsFrom1To999999() {
        AlikeSteps x = fours();
        due(16807 % 4, x.walk(0, 1, 1));
        due(999999L * 16807 % 2147483647 % 4, x.walk(0, 1, 999999));
        for (int seed : new int[] {0, -1, 1000000, MIN, MAX}) {
            due(BAD, x.walk(0, 1, seed));
            due(BAD, x.walk(0, 0, seed));
        }
    }

    @Says(in = "Promise 27", words = "BAD.")
    static void walksOfWhatIsNotThere() {
        AlikeSteps x = read("p;p;a0,1;");
        for (int state : new int[] {-1, 2, 10, MIN, MAX}) {
            due(BAD, x.walk(state, 0, 1));
        }
        for (int n : new int[] {-1, 61, MIN, MAX}) {
            due(BAD, x.walk(0, n, 1));
        }
        due(0, x.walk(0, 0, 1));
        due(1, x.walk(0, 60, 1));
        due(BAD, new AlikeSteps().walk(0, 0, 1));
    }

    // ---- promise 28

    @Says(in = "Promise 28", words = "LETTERS (what = 0), FROMS (1), TOS (2) of an ARC by BLOCKS of a RULE (0 to 2)")
    static void fitsByLettersFromsAndTos() {
        AlikeSteps x = read("p;p;p;a0,1;b2,1;");
        fill(x, 0, 0, 0, 1, 2);
        due(1 | 2 | 8, x.fits(0, 0, 0, 0));
        due(1 | 2, x.fits(0, 0, 0, 1));
        due(7, x.fits(0, 0, 0, 2));
        fill(x, 0, 1, 0, 1, 0);
        due(4, x.fits(0, 0, 0, 0));
        due(0, x.fits(0, 0, 0, 1));
        due(0, x.fits(0, 0, 0, 2));
        // by rules 1 and 2 a silent one
        fill(x, 0, 2, 0, 0, 1);
        int[] letters = {0, 1, 1};
        for (int rule = 0; rule < 3; rule++) {
            due(letters[rule], x.fits(rule, 0, 0, 0));
        }
        // it is asked, and nothing is done
        same("p;p;p;a0,1;b2,1;", system(x));
        due(0, x.count(4));
        same("012", blocks(x, 0));
    }

    @Says(in = "Terms", words = "A row tells BLOCKS of STATES 0, 1, .. by a RULE. LETTERS (0 to 3, bits) of an ARC by which it is so; FROMS (bits), TOS (bits) of it, likewise.")
    static void fitsByNoneAndByAll() {
        AlikeSteps x = read("p;a0,0;");
        fill(x, 0, 0, 0);
        fill(x, 1, 2, 1);
        for (int rule = 0; rule < 3; rule++) {
            due(15, x.fits(rule, 0, 0, 0));
            due(1, x.fits(rule, 0, 0, 1));
            due(1, x.fits(rule, 0, 0, 2));
            for (int what = 0; what < 3; what++) {
                due(0, x.fits(rule, 0, 1, what));
            }
        }
        // the BLOCKS by their numbers: the same parts, told by others, are not so
        AlikeSteps y = read("g;p;a0,0;");
        fill(y, 0, 0, 0, 1);
        due(15, y.fits(0, 0, 0, 0));
        fill(y, 0, 0, 1, 0);
        due(0, y.fits(0, 0, 0, 0));
        fill(y, 0, 0, 0, -1);
        due(0, y.fits(0, 0, 0, 0));
        fill(y, 0, 2, 0, 257);
        due(0, y.fits(0, 0, 0, 0));
        // STATE 9, and ARC 19
        AlikeSteps z = read(TEN + "a0,0;a1,1;a2,2;a3,3;a4,4;a5,5;a6,6;a7,7;a8,8;a9,9;" + "a0,0;".repeat(4));
        for (int n = 14; n < 20; n++) {
            z.lay(1, 0, 0);
        }
        z.row(0, 0, 10);
        due(2, z.fits(0, 19, 0, 0));
        due(1023, z.fits(0, 19, 0, 1));
        due(1023, z.fits(0, 19, 0, 2));
    }

    @Says(in = "Promise 28", words = "as many ITEMS of a ROW, from 0 on, as there are STATES.")
    static void fitsByAsManyItemsAsThereAreStates() {
        AlikeSteps x = read("g;p;a0,0;");
        fill(x, 0, 0, 0, 1);
        due(15, x.fits(0, 0, 0, 0));
        // those behind them are of no use
        fill(x, 0, 0, 0, 1, 77);
        due(15, x.fits(0, 0, 0, 0));
        fill(x, 0, 0, 77, 0, 1);
        due(0, x.fits(0, 0, 0, 0));
    }

    @Says(in = "Promise 28", words = "BAD: RULE, ARC, ROW, what;")
    static void fitsOfWhatIsNotThere() {
        AlikeSteps x = read("p;a0,0;");
        x.row(0, 0, 1);
        x.row(7, 0, 1);
        for (int rule : new int[] {-1, 3, 4, MIN, MAX}) {
            due(BAD, x.fits(rule, 0, 0, 0));
        }
        for (int arc : new int[] {-1, 1, 19, 20, MIN, MAX}) {
            due(BAD, x.fits(0, arc, 0, 0));
        }
        for (int row : new int[] {-1, 8, MIN, MAX}) {
            due(BAD, x.fits(0, 0, row, 0));
        }
        for (int what : new int[] {-1, 3, MIN, MAX}) {
            due(BAD, x.fits(0, 0, 0, what));
        }
        due(15, x.fits(2, 0, 7, 0));
        due(1, x.fits(0, 0, 7, 2));
        due(BAD, new AlikeSteps().fits(0, 0, 0, 0));
    }

    @Says(in = "Promise 28", words = "NULL;")
    static void fitsOfAMissingRow() {
        AlikeSteps x = read("p;a0,0;");
        due(NULL, x.fits(0, 0, 0, 0));
        due(NULL, x.fits(2, 0, 7, 2));
        due(1, x.status());
    }

    @Says(in = "Promise 28", words = "PLACE: there are fewer.")
    static void fitsOfFewerItems() {
        AlikeSteps x = read("p;p;a0,0;");
        x.row(0, 0, 1);
        due(PLACE, x.fits(0, 0, 0, 0));
        due(2, x.status());
        x.row(0, 0, 0);
        due(PLACE, x.fits(0, 0, 0, 2));
        fill(x, 0, 0, 0, 1);
        due(15, x.fits(0, 0, 0, 0));
        due(0, x.status());
    }

    // ---- promise 29

    @Says(in = "Promise 29", words = "An IMAGE (0, 1) is kept of the SYSTEM: 1.")
    static void imagesAreKept() {
        AlikeSteps x = read(CHAIN);
        due(1, x.image(0));
        x.become(9, 5);
        x.cut(0);
        due(1, x.image(1));
        due(2, x.count(4));
        String later = system(x);
        // what comes behind does not reach them, be it another system
        x.turn(3);
        reread(x, "x;");
        due(1, x.restore(0));
        same(CHAIN, system(x));
        due(1, x.restore(1));
        same(later, system(x));
        // another one in its place
        reread(x, "w;c0,0;");
        due(1, x.image(1));
        reread(x, "p;");
        due(1, x.restore(1));
        same("w;c0,0;", system(x));
        due(1, x.restore(0));
        same(CHAIN, system(x));
    }

    @Says(in = "Promise 29", words = "BAD;")
    static void imageOfNoSuchNumber() {
        AlikeSteps x = read("p;");
        for (int k : new int[] {-1, 2, MIN, MAX}) {
            due(BAD, x.image(k));
        }
        due(STATE, x.restore(0));
        due(STATE, x.restore(1));
    }

    @Says(in = "Promise 29", words = "STATE: no SYSTEM.")
    static void imageOfNoSystem() {
        AlikeSteps x = new AlikeSteps();
        due(STATE, x.image(0));
        due(STATE, x.image(1));
        due(STATE, x.restore(0));
        reread(x, "?");
        due(STATE, x.image(0));
        reread(x, "p;");
        due(1, x.image(0));
    }

    // ---- promise 30

    @Says(in = "Promise 30", words = "The SYSTEM is as an IMAGE kept it")
    static void restoreAsItWasKept() {
        AlikeSteps x = read("p;g;a0,1;");
        x.image(1);
        x.cut(0);
        x.become(1, 1);
        same("00", blocks(x, 0));
        due(1, x.restore(1));
        same("p;g;a0,1;", system(x));
        same("01", blocks(x, 0));
        due(2, x.moves(0, 0, 1));
        // and again: what was changed behind restoring did not reach it
        x.turn(0);
        due(1, x.restore(1));
        same("p;g;a0,1;", system(x));
    }

    @Says(in = "Promise 30", words = "(no ACT can be undone then): 1.")
    static void noActCanBeUndoneBehindRestoring() {
        AlikeSteps x = read("p;p;");
        x.lay(0, 0, 1);
        x.image(0);
        x.lay(0, 1, 0);
        due(2, x.count(4));
        due(1, x.restore(0));
        due(0, x.count(4));
        due(STATE, x.undo());
        due(1, x.count(2));
        x.lay(0, 1, 0);
        due(0, x.undo());
    }

    @Says(in = "Promise 30", words = "BAD;")
    static void restoreOfNoSuchNumber() {
        AlikeSteps x = read("p;");
        x.image(0);
        x.image(1);
        for (int k : new int[] {-1, 2, MIN, MAX}) {
            due(BAD, x.restore(k));
        }
    }

    @Says(in = "Promise 30", words = "STATE: none was kept.")
    static void restoreOfNone() {
        AlikeSteps x = read("p;");
        x.lay(0, 0, 0);
        due(STATE, x.restore(0));
        due(STATE, x.restore(1));
        x.image(1);
        due(STATE, x.restore(0));
        due(1, x.count(4));
        due(1, x.restore(1));
        due(STATE, x.restore(0));
    }
}
