/**
 * States of kinds with arcs between them, and which of the states behave alike by their steps.
 * The numbered promises that this class keeps stand in the document (shared/DOC.md).
 *
 * All that is needed is made in the constructor: no call makes an object or an array, since all
 * calls of a run share one room.
 */
public final class AlikeSteps {
    public static final int NONE = -1000000, BAD = -1000001, STATE = -1000002, FULL = -1000003;

    private static final int FOUND = -1000010;
    private static final int FOUND_NULL = 1;
    private static final int FOUND_PLACE = 2;
    private static final int FOUND_KIND = 3;
    private static final int FOUND_SIZE = 4;
    private static final int FOUND_STORE = 5;

    private static final int FAULTY = -1000100;

    private static final int MOST_STATES = 10;
    private static final int MOST_ARCS = 20;
    private static final int LETTERS = 4;
    private static final int MOST_CODES = 9999;
    private static final int LONGEST_WORD = 6;

    private static final int PLACE = 1;
    private static final int GOAL = 2;
    private static final int TRAP = 3;
    private static final int DOOR = 4;
    private static final int GATE = 5;

    private final Rows rows = new Rows();
    private final Tape tape = new Tape();
    private final Net net = new Net();
    private final Net draft = new Net();
    private final Net trial = new Net();
    private final Net[] images = new Net[2];
    private final Acts acts = new Acts();
    private final Alike alike = new Alike();
    private final Alike alikeInTrial = new Alike();
    private final Teller[] tellers = new Teller[2];
    private final Formula formula = new Formula();
    private final Asker asker = new Asker();
    private int latestFault = 0;
    private int latestFinding = 0;

    public AlikeSteps() {
        images[0] = new Net();
        images[1] = new Net();
        tellers[0] = new Teller(0);
        tellers[1] = new Teller(1);
    }

    // ---- rows

    public int row(int row, int lane, int n) {
        if (!Rows.exists(row) || !within(lane, 0, 2) || n > Rows.MOST_ITEMS) {
            return BAD;
        }
        if (n < 0) {
            return found(FOUND_SIZE);
        }
        rows.make(row, lane, n);
        return fine(n);
    }

    public int set(int row, int i, int v) {
        if (!Rows.exists(row)) {
            return BAD;
        }
        if (rows.isMissing(row)) {
            return found(FOUND_NULL);
        }
        if (!within(i, 0, rows.length(row) - 1)) {
            return found(FOUND_PLACE);
        }
        return fine(rows.put(row, i, v));
    }

    public int copy(int a, int i, int b, int j, int n) {
        if (!Rows.exists(a) || !Rows.exists(b)) {
            return BAD;
        }
        if (rows.isMissing(a) || rows.isMissing(b)) {
            return found(FOUND_NULL);
        }
        if (rows.lane(a) != rows.lane(b)) {
            return found(FOUND_STORE);
        }
        if (!rows.hasRange(a, i, n) || !rows.hasRange(b, j, n)) {
            return found(FOUND_PLACE);
        }
        rows.carry(a, i, b, j, n);
        return fine(n);
    }

    public int drop(int row) {
        if (!Rows.exists(row)) {
            return BAD;
        }
        if (rows.isMissing(row)) {
            return found(FOUND_NULL);
        }
        int had = rows.length(row);
        rows.remove(row);
        return fine(had);
    }

    // ---- systems, acts

    public int feed(int letter) {
        if (!within(letter, 0, 255)) {
            return BAD;
        }
        return tape.isFull() ? FULL : tape.append(letter);
    }

    public int system() {
        int faultRead = tape.read(draft);
        tape.clear();
        if (faultRead != 0) {
            latestFault = faultRead;
            return FAULTY - tape.place();
        }
        net.takeOver(draft);
        acts.forget();
        return net.states();
    }

    public int fault() {
        return latestFault;
    }

    public int lay(int letter, int from, int to) {
        if (!within(letter, 0, LETTERS - 1) || !net.hasState(from) || !net.hasState(to)) {
            return BAD;
        }
        if (net.arcTotal() >= MOST_ARCS) {
            return FULL;
        }
        net.addArc(letter, from, to);
        acts.noteLaid();
        return net.arcTotal();
    }

    public int cut(int arc) {
        if (!net.hasArc(arc)) {
            return BAD;
        }
        acts.noteCut(net, arc);
        net.removeArc(arc);
        return net.arcTotal();
    }

    public int turn(int arc) {
        if (!net.hasArc(arc)) {
            return BAD;
        }
        net.turnArc(arc);
        acts.noteTurned(arc);
        return net.arcPart(arc, Net.TO);
    }

    public int become(int state, int kind) {
        if (!net.hasState(state) || !within(kind, PLACE, GATE)) {
            return BAD;
        }
        int was = net.kindOf(state);
        if (was == kind) {
            return STATE;
        }
        net.setKind(state, kind);
        acts.noteKind(state, was);
        return was;
    }

    public int undo() {
        if (acts.size() == 0) {
            return STATE;
        }
        acts.undoLatest(net);
        return acts.size();
    }

    public int arc(int arc, int what) {
        if (!net.hasArc(arc) || !within(what, Net.LETTER, Net.TO)) {
            return BAD;
        }
        return net.arcPart(arc, what);
    }

    public int moves(int rule, int state, int letter) {
        if (!within(rule, 0, 2) || !net.hasState(state) || !within(letter, 0, LETTERS - 1)) {
            return BAD;
        }
        return alike.steps(net).moved(rule, letter, state);
    }

    // ---- alike

    public int block(int rule, int state) {
        if (!within(rule, 0, 3) || !net.hasState(state)) {
            return BAD;
        }
        return alike.parting(net, rule).lastBlock(state);
    }

    public int parts(int rule, int what) {
        if (net.states() == 0) {
            return STATE;
        }
        if (!within(rule, 0, 3) || !within(what, 0, 1)) {
            return BAD;
        }
        Parting parting = alike.parting(net, rule);
        return what == 0 ? parting.size() : parting.rounds();
    }

    public int behind(int rule, int n, int state) {
        if (!within(rule, 0, 3) || !within(n, 0, 20) || !net.hasState(state)) {
            return BAD;
        }
        Parting parting = alike.parting(net, rule);
        return parting.blockBehind(Math.min(n, parting.rounds()), state);
    }

    public long signs(int rule, int state) {
        if (!within(rule, 0, 2) || !net.hasState(state)) {
            return BAD;
        }
        return alike.parting(net, rule).lastSigns(state);
    }

    public int parted(int rule, int p, int q) {
        if (!within(rule, 0, 3) || !net.hasState(p) || !net.hasState(q)) {
            return BAD;
        }
        return alike.parting(net, rule).roundOf(p, q);
    }

    public int tells(int rule, int p, int q, int j) {
        if (!within(rule, 0, 1) || !net.hasState(p) || !net.hasState(q)
                || !within(j, -1, MOST_CODES - 1)) {
            return BAD;
        }
        if (alike.parting(net, rule).roundOf(p, q) == NONE) {
            return NONE;
        }
        Teller teller = tellers[rule];
        teller.follow(net, alike.steps(net), alike.parting(net, rule));
        long size = teller.sizeOf(p, q);
        if (j < 0) {
            return (int) Math.min(size, (long) MOST_CODES);
        }
        return j < size ? teller.codeAt(alike.steps(net), p, q, j) : NONE;
    }

    public int depth(int rule, int p, int q) {
        if (!within(rule, 0, 1) || !net.hasState(p) || !net.hasState(q)) {
            return BAD;
        }
        // What TELLS two apart goes by ROUNDS downwards, so it is no deeper than the ROUND that
        // parts them; and no formula that is less deep parts two that this ROUND is first to part.
        return alike.parting(net, rule).roundOf(p, q);
    }

    public int holds(int rule, int state, int row, int n) {
        if (!within(rule, 0, 1) || !net.hasState(state) || !Rows.exists(row)
                || !within(n, 1, Formula.MOST)) {
            return BAD;
        }
        if (rows.isMissing(row)) {
            return found(FOUND_NULL);
        }
        if (n > rows.length(row)) {
            return found(FOUND_PLACE);
        }
        Steps steps = alike.steps(net);
        formula.begin(rule, net.all(), net.marked());
        for (int i = n - 1; i >= 0; i--) {
            formula.takeBackwards(rows.item(row, i), steps);
        }
        return fine(formula.isOne() ? formula.answer() >> state & 1 : NONE);
    }

    public int small(int rule, int block, int letter) {
        if (!within(rule, 0, 2) || net.states() == 0 || !within(letter, 0, LETTERS - 1)
                || !within(block, 0, alike.parting(net, rule).size() - 1)) {
            return BAD;
        }
        return alike.parting(net, rule).smallOf(alike.steps(net), block, letter);
    }

    public int arcs(int rule) {
        if (net.states() == 0) {
            return STATE;
        }
        if (!within(rule, 0, 2)) {
            return BAD;
        }
        return alike.parting(net, rule).smallArcs(alike.steps(net));
    }

    public int words(int state, int n) {
        if (!net.hasState(state) || !within(n, 0, LONGEST_WORD)) {
            return BAD;
        }
        return alike.steps(net).wordsFrom(state, n);
    }

    public int walk(int state, int n, int seed) {
        if (!net.hasState(state) || !within(n, 0, 60) || !within(seed, 1, 999999)) {
            return BAD;
        }
        return alike.steps(net).endOfWalk(state, n, seed);
    }

    public int fits(int rule, int arc, int row, int what) {
        if (!within(rule, 0, 2) || !net.hasArc(arc) || !Rows.exists(row)
                || !within(what, Net.LETTER, Net.TO)) {
            return BAD;
        }
        if (rows.isMissing(row)) {
            return found(FOUND_NULL);
        }
        if (rows.length(row) < net.states()) {
            return found(FOUND_PLACE);
        }
        int choices = what == Net.LETTER ? LETTERS : net.states();
        int fitting = 0;
        for (int choice = 0; choice < choices; choice++) {
            trial.takeOver(net);
            trial.setArcPart(arc, what, choice);
            if (tellsBlocks(row, alikeInTrial.parting(trial, rule))) {
                fitting |= 1 << choice;
            }
        }
        return fine(fitting);
    }

    public int image(int k) {
        if (!within(k, 0, 1)) {
            return BAD;
        }
        if (net.states() == 0) {
            return STATE;
        }
        images[k].takeOver(net);
        return 1;
    }

    public int restore(int k) {
        if (!within(k, 0, 1)) {
            return BAD;
        }
        if (images[k].states() == 0) {
            return STATE;
        }
        net.takeOver(images[k]);
        acts.forget();
        return 1;
    }

    // ---- asked

    public int kind(int state) {
        return net.hasState(state) ? net.kindOf(state) : BAD;
    }

    public int as(int state, int kind) {
        if (!net.hasState(state) || !within(kind, 0, GATE)) {
            return BAD;
        }
        return isA(net.kindOf(state), kind) ? fine(state) : found(FOUND_KIND);
    }

    public int ask(int state, int what) {
        if (!net.hasState(state) || !within(what, 0, 1)) {
            return BAD;
        }
        asker.begin(state, net.kindOf(state), alike.steps(net).ways(state),
                alike.parting(net, 0).lastBlock(state));
        return asker.answer(what);
    }

    public int trace(int i) {
        return asker.traceAt(i);
    }

    public int count(int what) {
        switch (what) {
            case 0: return rows.size();
            case 1: return net.states();
            case 2: return net.arcTotal();
            case 3: return net.marked();
            case 4: return acts.size();
            case 5: return tape.size();
            default: return BAD;
        }
    }

    public int status() {
        return latestFinding;
    }

    private int found(int number) {
        latestFinding = number;
        return FOUND - number;
    }

    private int fine(int answer) {
        latestFinding = 0;
        return answer;
    }

    private boolean tellsBlocks(int row, Parting parting) {
        for (int state = 0; state < net.states(); state++) {
            if (rows.item(row, state) != parting.lastBlock(state)) {
                return false;
            }
        }
        return true;
    }

    private static boolean within(int v, int low, int high) {
        return v >= low && v <= high;
    }

    private static boolean isA(int kind, int other) {
        return kind == other || other == 0 || nextKind(kind) == other;
    }

    /** The KIND that a KIND is, too; 0 for those that are nothing but STATES. */
    private static int nextKind(int kind) {
        switch (kind) {
            case GOAL: return PLACE;
            case TRAP: return PLACE;
            case GATE: return DOOR;
            default: return 0;
        }
    }

    /** The ROWS; each has its own stretch of one array. */
    static final class Rows {
        static final int MOST_ITEMS = 40;
        private static final int ROWS = 8;
        private static final int MISSING = -1;

        private final int[] lanes = new int[ROWS];
        private final int[] lengths = new int[ROWS];
        private final int[] items = new int[ROWS * MOST_ITEMS];

        Rows() {
            for (int row = 0; row < ROWS; row++) {
                lanes[row] = MISSING;
            }
        }

        static boolean exists(int row) {
            return row >= 0 && row < ROWS;
        }

        boolean isMissing(int row) {
            return lanes[row] == MISSING;
        }

        int lane(int row) {
            return lanes[row];
        }

        int length(int row) {
            return lengths[row];
        }

        int item(int row, int i) {
            return items[row * MOST_ITEMS + i];
        }

        int size() {
            int there = 0;
            for (int row = 0; row < ROWS; row++) {
                there += isMissing(row) ? 0 : 1;
            }
            return there;
        }

        void make(int row, int lane, int n) {
            lanes[row] = lane;
            lengths[row] = n;
            for (int i = 0; i < n; i++) {
                items[row * MOST_ITEMS + i] = 0;
            }
        }

        void remove(int row) {
            lanes[row] = MISSING;
            lengths[row] = 0;
        }

        int put(int row, int i, int v) {
            int kept = cutToLane(lanes[row], v);
            items[row * MOST_ITEMS + i] = kept;
            return kept;
        }

        /** The sum of i and n may be beyond what an int holds, so n is taken off the length. */
        boolean hasRange(int row, int i, int n) {
            return i >= 0 && n >= 0 && i <= lengths[row] - n;
        }

        void carry(int a, int i, int b, int j, int n) {
            System.arraycopy(items, a * MOST_ITEMS + i, items, b * MOST_ITEMS + j, n);
        }

        private static int cutToLane(int lane, int v) {
            switch (lane) {
                case 0: return (byte) v;
                case 1: return (short) v;
                default: return v;
            }
        }
    }

    /** A SYSTEM: the kinds of its STATES, and its ARCS; none, if it has no STATES. */
    static final class Net {
        static final int LETTER = 0;
        static final int FROM = 1;
        static final int TO = 2;
        private static final int PARTS_OF_ARC = 3;

        private final int[] kinds = new int[MOST_STATES];
        private final int[] arcParts = new int[PARTS_OF_ARC * MOST_ARCS];
        private int states = 0;
        private int arcs = 0;
        private int version = 0;

        int states() {
            return states;
        }

        int arcTotal() {
            return arcs;
        }

        /** Another number with each change, so that what was worked out is known to be stale. */
        int version() {
            return version;
        }

        boolean hasState(int state) {
            return state >= 0 && state < states;
        }

        boolean hasArc(int arc) {
            return arc >= 0 && arc < arcs;
        }

        int kindOf(int state) {
            return kinds[state];
        }

        int arcPart(int arc, int what) {
            return arcParts[what * MOST_ARCS + arc];
        }

        int all() {
            return (1 << states) - 1;
        }

        int marked() {
            int set = 0;
            for (int state = 0; state < states; state++) {
                if (kinds[state] == GOAL || kinds[state] == GATE) {
                    set |= 1 << state;
                }
            }
            return set;
        }

        void clear() {
            states = 0;
            arcs = 0;
            version++;
        }

        void takeOver(Net other) {
            System.arraycopy(other.kinds, 0, kinds, 0, kinds.length);
            System.arraycopy(other.arcParts, 0, arcParts, 0, arcParts.length);
            states = other.states;
            arcs = other.arcs;
            version++;
        }

        void addState(int kind) {
            if (states < MOST_STATES) {
                kinds[states] = kind;
                states++;
                version++;
            }
        }

        void setKind(int state, int kind) {
            kinds[state] = kind;
            version++;
        }

        void addArc(int letter, int from, int to) {
            insertArc(arcs, letter, from, to);
        }

        void insertArc(int arc, int letter, int from, int to) {
            if (arcs < MOST_ARCS && arc >= 0 && arc <= arcs) {
                shiftArcs(arc, arc + 1, arcs - arc);
                arcs++;
                setArcPart(arc, LETTER, letter);
                setArcPart(arc, FROM, from);
                setArcPart(arc, TO, to);
            }
        }

        void removeArc(int arc) {
            if (hasArc(arc)) {
                shiftArcs(arc + 1, arc, arcs - arc - 1);
                arcs--;
                version++;
            }
        }

        void turnArc(int arc) {
            int from = arcPart(arc, FROM);
            setArcPart(arc, FROM, arcPart(arc, TO));
            setArcPart(arc, TO, from);
        }

        void setArcPart(int arc, int what, int v) {
            arcParts[what * MOST_ARCS + arc] = v;
            version++;
        }

        private void shiftArcs(int first, int to, int n) {
            for (int what = 0; what < PARTS_OF_ARC; what++) {
                int base = what * MOST_ARCS;
                System.arraycopy(arcParts, base + first, arcParts, base + to, n);
            }
        }
    }

    /** THE TAPE, and how it is read, one TOKEN behind the other. */
    static final class Tape {
        private static final int MOST_BYTES = 140;
        private static final int CANNOT_STAND = 1;
        private static final int NOT_AS_TOLD = 2;
        private static final int NO_ROOM = 3;
        private static final int END = -1;

        private final int[] bytes = new int[MOST_BYTES];
        private int length = 0;
        private int at = 0;

        boolean isFull() {
            return length >= MOST_BYTES;
        }

        int size() {
            return length;
        }

        int append(int letter) {
            if (!isFull()) {
                bytes[length] = letter;
                length++;
            }
            return length;
        }

        void clear() {
            length = 0;
        }

        /** Where reading stopped: the place of the FAULT, if there was one. */
        int place() {
            return at;
        }

        /** The number of the first FAULT, or 0: then the SYSTEM stands in the draft. */
        int read(Net draft) {
            at = 0;
            draft.clear();
            int found = readStates(draft);
            return found != 0 ? found : readArcs(draft);
        }

        private int readStates(Net draft) {
            for (int state = 0; state <= MOST_STATES; state++) {
                int kind = kindOfSort(next());
                if (kind == 0) {
                    return state == 0 ? CANNOT_STAND : 0;
                }
                if (state == MOST_STATES) {
                    return NO_ROOM;
                }
                at++;
                if (!passes(';')) {
                    return CANNOT_STAND;
                }
                draft.addState(kind);
            }
            return 0;
        }

        private int readArcs(Net draft) {
            for (int arc = 0; arc <= MOST_ARCS && at < length; arc++) {
                int letter = letterOf(next());
                if (letter < 0) {
                    return CANNOT_STAND;
                }
                if (arc == MOST_ARCS) {
                    return NO_ROOM;
                }
                at++;
                int found = readEnds(draft, letter);
                if (found != 0) {
                    return found;
                }
            }
            return 0;
        }

        private int readEnds(Net draft, int letter) {
            int from = readNumber(draft);
            if (from < 0) {
                return -from;
            }
            if (!passes(',')) {
                return CANNOT_STAND;
            }
            int to = readNumber(draft);
            if (to < 0) {
                return -to;
            }
            if (!passes(';')) {
                return CANNOT_STAND;
            }
            draft.addArc(letter, from, to);
            return 0;
        }

        /** The NUMBER of a STATE; less than 0: a FAULT's number, taken from 0. */
        private int readNumber(Net draft) {
            int figures = 0;
            int number = 0;
            while (figures < 3 && isFigure(at + figures)) {
                number = number * 10 + bytes[at + figures] - '0';
                figures++;
            }
            if (figures == 0 || figures > 2) {
                return -CANNOT_STAND;
            }
            if (!draft.hasState(number)) {
                return -NOT_AS_TOLD;
            }
            at += figures;
            return number;
        }

        private boolean isFigure(int place) {
            return place < length && bytes[place] >= '0' && bytes[place] <= '9';
        }

        private boolean passes(char sign) {
            if (next() != sign) {
                return false;
            }
            at++;
            return true;
        }

        private int next() {
            return at < length ? bytes[at] : END;
        }

        private static int kindOfSort(int sort) {
            switch (sort) {
                case 'p': return PLACE;
                case 'g': return GOAL;
                case 'x': return TRAP;
                case 'd': return DOOR;
                case 'w': return GATE;
                default: return 0;
            }
        }

        private static int letterOf(int sign) {
            switch (sign) {
                case 't': return 0;
                case 'a': return 1;
                case 'b': return 2;
                case 'c': return 3;
                default: return -1;
            }
        }
    }

    /** The ACTS that can be undone, each with what is needed to go back. */
    static final class Acts {
        private static final int MOST = 20;
        private static final int WIDTH = 5;
        private static final int LAID = 0;
        private static final int CUT = 1;
        private static final int TURNED = 2;
        private static final int OTHER_KIND = 3;

        private final int[] log = new int[MOST * WIDTH];
        private int kept = 0;

        int size() {
            return kept;
        }

        void forget() {
            kept = 0;
        }

        void noteLaid() {
            note(LAID, 0, 0, 0, 0);
        }

        void noteCut(Net net, int arc) {
            note(CUT, arc, net.arcPart(arc, Net.LETTER), net.arcPart(arc, Net.FROM),
                    net.arcPart(arc, Net.TO));
        }

        void noteTurned(int arc) {
            note(TURNED, arc, 0, 0, 0);
        }

        void noteKind(int state, int was) {
            note(OTHER_KIND, state, was, 0, 0);
        }

        void undoLatest(Net net) {
            if (kept == 0) {
                return;
            }
            kept--;
            int base = kept * WIDTH;
            switch (log[base]) {
                case LAID:
                    net.removeArc(net.arcTotal() - 1);
                    break;
                case CUT:
                    net.insertArc(log[base + 1], log[base + 2], log[base + 3], log[base + 4]);
                    break;
                case TURNED:
                    net.turnArc(log[base + 1]);
                    break;
                default:
                    net.setKind(log[base + 1], log[base + 2]);
                    break;
            }
        }

        private void note(int act, int which, int first, int second, int third) {
            if (kept == MOST) {
                System.arraycopy(log, WIDTH, log, 0, (MOST - 1) * WIDTH);
                kept--;
            }
            int base = kept * WIDTH;
            log[base] = act;
            log[base + 1] = which;
            log[base + 2] = first;
            log[base + 3] = second;
            log[base + 4] = third;
            kept++;
        }
    }

    /** To which STATES one GOES and MOVES, by LETTERS; sets of STATES are bits. */
    static final class Steps {
        private final int[] goes = new int[LETTERS * MOST_STATES];
        private final int[] closed = new int[LETTERS * MOST_STATES];
        private int seen = -1;

        void follow(Net net) {
            if (seen == net.version()) {
                return;
            }
            seen = net.version();
            for (int i = 0; i < goes.length; i++) {
                goes[i] = 0;
            }
            for (int arc = 0; arc < net.arcTotal(); arc++) {
                openArc(net, arc);
            }
            closeSilent();
            closeLetters();
        }

        int moved(int rule, int letter, int state) {
            return rule == 1 ? closed[letter * MOST_STATES + state] : gone(letter, state);
        }

        int gone(int letter, int state) {
            return goes[letter * MOST_STATES + state];
        }

        /** Those to which one GOES by a LETTER from any of a set. */
        int goneFrom(int letter, int set) {
            return union(goes, letter, set);
        }

        /** Those to which one comes by silent ones alone that stay in a set. */
        int silentlyWithin(int state, int among) {
            int set = 1 << state;
            for (int step = 0; step < MOST_STATES; step++) {
                int wider = set | union(goes, 0, set) & among;
                if (wider == set) {
                    break;
                }
                set = wider;
            }
            return set;
        }

        /** The set of those that MOVE by a LETTER to any of a set. */
        int movingTo(int rule, int letter, int set) {
            int moving = 0;
            for (int state = 0; state < MOST_STATES; state++) {
                if ((moved(rule, letter, state) & set) != 0) {
                    moving |= 1 << state;
                }
            }
            return moving;
        }

        int wordsFrom(int state, int n) {
            return spelt(closed, 1 << state, n);
        }

        int endOfWalk(int state, int n, int seed) {
            long x = seed;
            int at = state;
            for (int step = 0; step < n; step++) {
                x = x * 16807L % 2147483647L;
                int ways = ways(at);
                if (ways > 0) {
                    at = way(at, (int) (x % ways));
                }
            }
            return at;
        }

        /** How many pairs of a LETTER and a STATE to which one GOES by that. */
        int ways(int state) {
            int pairs = 0;
            for (int letter = 0; letter < LETTERS; letter++) {
                pairs += Integer.bitCount(gone(letter, state));
            }
            return pairs;
        }

        private int way(int state, int number) {
            int left = number;
            for (int letter = 0; letter < LETTERS; letter++) {
                for (int to = 0; to < MOST_STATES; to++) {
                    if ((gone(letter, state) >> to & 1) != 0) {
                        if (left == 0) {
                            return to;
                        }
                        left--;
                    }
                }
            }
            return state;
        }

        private void openArc(Net net, int arc) {
            int base = net.arcPart(arc, Net.LETTER) * MOST_STATES;
            int from = net.arcPart(arc, Net.FROM);
            int to = net.arcPart(arc, Net.TO);
            if (net.kindOf(from) != TRAP) {
                goes[base + from] |= 1 << to;
            }
            if (isA(net.kindOf(from), DOOR) && net.kindOf(to) != TRAP) {
                goes[base + to] |= 1 << from;
            }
        }

        private void closeSilent() {
            for (int state = 0; state < MOST_STATES; state++) {
                closed[state] = silentlyWithin(state, -1);
            }
        }

        private void closeLetters() {
            for (int letter = 1; letter < LETTERS; letter++) {
                for (int state = 0; state < MOST_STATES; state++) {
                    int reached = goneFrom(letter, closed[state]);
                    closed[letter * MOST_STATES + state] = union(closed, 0, reached);
                }
            }
        }

        /** How many rows of so many LETTERS can be gone from any of a set; a row by itself once. */
        private static int spelt(int[] closed, int set, int left) {
            if (set == 0 || left < 0 || left > LONGEST_WORD) {
                return 0;
            }
            if (left == 0) {
                return 1;
            }
            int rows = 0;
            for (int letter = 1; letter < LETTERS; letter++) {
                rows += spelt(closed, union(closed, letter, set), left - 1);
            }
            return rows;
        }

        private static int union(int[] table, int letter, int set) {
            int all = 0;
            for (int state = 0; state < MOST_STATES && set >> state != 0; state++) {
                if ((set >> state & 1) != 0) {
                    all |= table[letter * MOST_STATES + state];
                }
            }
            return all;
        }
    }

    /** The PARTS of one RULE, with the BLOCKS behind each ROUND. */
    static final class Parting {
        private final int rule;
        // Ten STATES are parted in nine ROUNDS at most; one more is tried, and parts none.
        private final int[] blocks = new int[(MOST_STATES + 1) * MOST_STATES];
        private final long[] signs = new long[MOST_STATES];
        private int states = 0;
        private int rounds = 0;
        private int parts = 0;
        private int seen = -1;

        Parting(int rule) {
            this.rule = rule;
        }

        void follow(Net net, Steps steps) {
            if (seen == net.version()) {
                return;
            }
            seen = net.version();
            states = net.states();
            rounds = 0;
            int marked = net.marked();
            for (int state = 0; state < states; state++) {
                signs[state] = marked >> state & 1;
            }
            parts = numberBlocks(0);
            if (rule < 3) {
                partOn(steps);
            }
        }

        int size() {
            return parts;
        }

        int rounds() {
            return rounds;
        }

        int blockBehind(int round, int state) {
            return blocks[round * MOST_STATES + state];
        }

        int lastBlock(int state) {
            return blockBehind(rounds, state);
        }

        /** The last ROUND that was tried parted none, so its SIGNS are those by the last BLOCKS. */
        long lastSigns(int state) {
            return signs[state];
        }

        int roundOf(int p, int q) {
            for (int round = 0; round <= rounds; round++) {
                if (blockBehind(round, p) != blockBehind(round, q)) {
                    return round;
                }
            }
            return NONE;
        }

        /** The BLOCKS, as bits, in which the STATES of a set are behind a ROUND. */
        int blocksOf(int round, int set) {
            int found = 0;
            for (int state = 0; state < states && set >> state != 0; state++) {
                if ((set >> state & 1) != 0) {
                    found |= 1 << blockBehind(round, state);
                }
            }
            return found;
        }

        int smallOf(Steps steps, int block, int letter) {
            int reached = steps.goneFrom(letter, statesOf(rounds, block));
            int found = blocksOf(rounds, reached);
            return rule > 0 && letter == 0 ? found & ~(1 << block) : found;
        }

        int smallArcs(Steps steps) {
            int pairs = 0;
            for (int block = 0; block < parts; block++) {
                for (int letter = 0; letter < LETTERS; letter++) {
                    pairs += Integer.bitCount(smallOf(steps, block, letter));
                }
            }
            return pairs;
        }

        private void partOn(Steps steps) {
            for (int round = 1; round <= MOST_STATES; round++) {
                for (int state = 0; state < states; state++) {
                    signs[state] = signsBy(steps, round - 1, state);
                }
                int found = numberBlocks(round);
                if (found == parts) {
                    return;
                }
                parts = found;
                rounds = round;
            }
        }

        private long signsBy(Steps steps, int round, int state) {
            int own = blockBehind(round, state);
            int near = rule == 2 ? steps.silentlyWithin(state, statesOf(round, own)) : 0;
            long found = 0;
            for (int letter = 0; letter < LETTERS; letter++) {
                int reached = rule == 2
                        ? steps.goneFrom(letter, near) : steps.moved(rule, letter, state);
                found |= (long) blocksOf(round, reached) << 10 * letter;
            }
            return rule == 2 ? found & ~(1L << own) : found;
        }

        private int statesOf(int round, int block) {
            int set = 0;
            for (int state = 0; state < states; state++) {
                if (blockBehind(round, state) == block) {
                    set |= 1 << state;
                }
            }
            return set;
        }

        /** Numbers the BLOCKS behind a ROUND by their least STATES: how many there are. */
        private int numberBlocks(int round) {
            int found = 0;
            for (int state = 0; state < states; state++) {
                int like = firstLike(round, state);
                int block = like < state ? blockBehind(round, like) : found;
                blocks[round * MOST_STATES + state] = block;
                found = Math.max(found, block + 1);
            }
            return found;
        }

        private int firstLike(int round, int state) {
            for (int other = 0; other < state; other++) {
                boolean together = round == 0
                        || blockBehind(round - 1, other) == blockBehind(round - 1, state);
                if (together && signs[other] == signs[state]) {
                    return other;
                }
            }
            return state;
        }
    }

    /** What TELLS two STATES apart; it may be long, so how long it is is kept, not its CODES. */
    static final class Teller {
        private static final int TURNED = -1;
        private static final int MARKED = -2;
        private static final int UNMARKED = -3;

        private final int rule;
        private final int[] partedIn = new int[MOST_STATES * MOST_STATES];
        private final int[] leads = new int[MOST_STATES * MOST_STATES];
        private final long[] sizes = new long[MOST_STATES * MOST_STATES];
        private int seen = -1;

        Teller(int rule) {
            this.rule = rule;
        }

        void follow(Net net, Steps steps, Parting parting) {
            if (seen == net.version()) {
                return;
            }
            seen = net.version();
            for (int p = 0; p < net.states(); p++) {
                boolean marked = (net.marked() >> p & 1) != 0;
                for (int q = 0; q < net.states(); q++) {
                    int round = parting.roundOf(p, q);
                    partedIn[p * MOST_STATES + q] = round;
                    leads[p * MOST_STATES + q] = round > 0
                            ? findLead(steps, parting, p, q) : marked ? MARKED : UNMARKED;
                }
            }
            for (int round = 0; round <= parting.rounds(); round++) {
                weighAll(net.states(), steps, round, false);
                weighAll(net.states(), steps, round, true);
            }
        }

        long sizeOf(int p, int q) {
            return sizes[p * MOST_STATES + q];
        }

        /** CODE number j; two steps a ROUND at most go down to it, one of them by turning round. */
        int codeAt(Steps steps, int p, int q, int j) {
            int first = p;
            int second = q;
            long left = j;
            for (int step = 0; step <= 2 * MOST_STATES; step++) {
                int lead = leads[first * MOST_STATES + second];
                if (lead == MARKED) {
                    return 30;
                }
                if (lead == UNMARKED) {
                    return left == 0 ? 20 : 30;
                }
                if (lead == TURNED) {
                    if (left == 0) {
                        return 20;
                    }
                    left--;
                    int other = first;
                    first = second;
                    second = other;
                } else {
                    int letter = lead / MOST_STATES;
                    int against = steps.moved(rule, letter, second);
                    if (left < 2) {
                        return left == 0 ? letter : 10 + Integer.bitCount(against);
                    }
                    left -= 2;
                    first = lead % MOST_STATES;
                    second = memberAt(first, against, left);
                    left -= sizeUpTo(first, against, second);
                }
            }
            return NONE;
        }

        /** The least LETTER, and the least STATE by it, none of whose like the second MOVES to. */
        private int findLead(Steps steps, Parting parting, int p, int q) {
            int round = partedIn[p * MOST_STATES + q] - 1;
            for (int letter = 0; letter < LETTERS; letter++) {
                int to = steps.moved(rule, letter, p);
                int shared = parting.blocksOf(round, steps.moved(rule, letter, q));
                for (int state = 0; state < MOST_STATES; state++) {
                    if ((to >> state & 1) != 0
                            && (shared >> parting.blockBehind(round, state) & 1) == 0) {
                        return letter * MOST_STATES + state;
                    }
                }
            }
            return TURNED;
        }

        /** Those that are turned round need the sizes of the others of the same ROUND. */
        private void weighAll(int states, Steps steps, int round, boolean turned) {
            for (int p = 0; p < states; p++) {
                for (int q = 0; q < states; q++) {
                    int pair = p * MOST_STATES + q;
                    if (partedIn[pair] == round && (leads[pair] == TURNED) == turned) {
                        sizes[pair] = weigh(steps, p, q);
                    }
                }
            }
        }

        private long weigh(Steps steps, int p, int q) {
            int lead = leads[p * MOST_STATES + q];
            switch (lead) {
                case MARKED: return 1;
                case UNMARKED: return 2;
                case TURNED: return 1 + sizeOf(q, p);
                default:
                    int against = steps.moved(rule, lead / MOST_STATES, q);
                    return 2 + sizeUpTo(lead % MOST_STATES, against, MOST_STATES);
            }
        }

        /** How many CODES tell a STATE from those of a set that are below a number. */
        private long sizeUpTo(int first, int set, int end) {
            long total = 0;
            for (int state = 0; state < end; state++) {
                if ((set >> state & 1) != 0) {
                    total += sizeOf(first, state);
                }
            }
            return total;
        }

        /** From which one of a set a STATE is told where so many CODES have gone by. */
        private int memberAt(int first, int set, long gone) {
            int member = 0;
            for (int state = 0; state < MOST_STATES; state++) {
                if ((set >> state & 1) != 0 && sizeUpTo(first, set, state) <= gone) {
                    member = state;
                }
            }
            return member;
        }
    }

    /** What follows from a SYSTEM, worked out when it is first asked for behind a change. */
    static final class Alike {
        private final Steps steps = new Steps();
        private final Parting[] partings = new Parting[4];

        Alike() {
            for (int rule = 0; rule < partings.length; rule++) {
                partings[rule] = new Parting(rule);
            }
        }

        Steps steps(Net net) {
            steps.follow(net);
            return steps;
        }

        Parting parting(Net net, int rule) {
            steps.follow(net);
            partings[rule].follow(net, steps);
            return partings[rule];
        }
    }

    /**
     * Of which STATES a FORMULA holds. Its CODES are taken from the last on: so all that a CODE
     * needs from behind it is there already, as sets of STATES on a stack.
     */
    static final class Formula {
        static final int MOST = 30;

        private final int[] sets = new int[MOST];
        private int rule = 0;
        private int all = 0;
        private int marked = 0;
        private int height = 0;
        private int list = 0;
        private boolean listOpen = false;
        private boolean wrong = false;

        void begin(int rule, int all, int marked) {
            this.rule = rule;
            this.all = all;
            this.marked = marked;
            height = 0;
            listOpen = false;
            wrong = false;
        }

        void takeBackwards(int code, Steps steps) {
            boolean isLetter = code >= 0 && code < LETTERS;
            // A LIST stands behind a LETTER, and nothing else does.
            if (wrong || isLetter != listOpen) {
                wrong = true;
            } else if (isLetter) {
                listOpen = false;
                push(steps.movingTo(rule, code, list));
            } else if (code >= 10 && code <= 19) {
                takeList(code - 10);
            } else if (code == 20 && height > 0) {
                sets[height - 1] = all & ~sets[height - 1];
            } else if (code == 30) {
                push(marked);
            } else {
                wrong = true;
            }
        }

        boolean isOne() {
            return !wrong && !listOpen && height == 1;
        }

        int answer() {
            return sets[0];
        }

        private void push(int set) {
            if (height < MOST) {
                sets[height] = set;
                height++;
            } else {
                wrong = true;
            }
        }

        private void takeList(int n) {
            if (n > height) {
                wrong = true;
                return;
            }
            list = all;
            for (int i = 0; i < n; i++) {
                height--;
                list &= sets[height];
            }
            listOpen = true;
        }
    }

    /** ASKS, by BODIES; each of these leaves its number in THE TRACE as it begins. */
    static final class Asker {
        private static final int MOST_TRACED = 16;
        // From the BODY of a GOAL's SIZE on it goes five deep, and no other way is longer.
        private static final int DEEPEST = 8;

        private final int[] trail = new int[MOST_TRACED];
        private int traced = 0;
        private int state = 0;
        private int kind = 0;
        private int pairs = 0;
        private int block = 0;

        void begin(int state, int kind, int pairs, int block) {
            this.state = state;
            this.kind = kind;
            this.pairs = pairs;
            this.block = block;
            traced = 0;
        }

        int answer(int what) {
            return body(what == 0 ? sizeBody() : markBody(), 0);
        }

        int traceAt(int i) {
            return i >= 0 && i < traced ? trail[i] : NONE;
        }

        private int sizeBody() {
            switch (kind) {
                case PLACE: return 11;
                case GOAL: return 12;
                case TRAP: return 11;
                case DOOR: return 13;
                case GATE: return 14;
                default: return 10;
            }
        }

        private int markBody() {
            switch (kind) {
                case PLACE: return 21;
                case GOAL: return 24;
                case TRAP: return 22;
                case DOOR: return 23;
                case GATE: return 23;
                default: return 20;
            }
        }

        private int body(int number, int depth) {
            if (depth > DEEPEST) {
                return 0;
            }
            leave(number);
            int next = depth + 1;
            switch (number) {
                case 10: return pairs;
                case 11: return body(10, next) + body(markBody(), next);
                case 12: return 0 - body(11, next);
                case 13: return body(10, next) - 100;
                case 14: return body(13, next) * 2;
                case 20: return state;
                case 21: return body(20, next) + block;
                case 22: return body(21, next) - 1000;
                case 23: return body(20, next) - body(sizeBody(), next);
                case 24: return body(21, next) * 2;
                default: return 0;
            }
        }

        private void leave(int number) {
            if (traced < MOST_TRACED) {
                trail[traced] = number;
                traced++;
            }
        }
    }
}
