import java.util.Arrays;

/** Several players on a net of states: who can force what. Its promises stand in ../shared/DOC.md. */
public final class ForceNet {
    public static final int BAD = -1, NOT = -2, FULL = -3, NONE = -4, SPENT = -5, NULL = -11, CAST = -12, INDEX = -13, SIZE = -14;

    private static final int STATES = 12;
    private static final int PLAYERS = 4;
    private static final int MOVES = 3;
    private static final int JOINTS = 81;
    private static final int HEAPS = 12;
    private static final int LETTERS = 8;
    private static final int COSTS = 9;
    private static final int PARTS = 24;
    private static final int TAPE = 100;
    private static final int SHEETS = 4;
    private static final int LANES = 3;
    private static final int ITEMS = 81;
    private static final int WALK = 40;

    private final Net net;
    private final Form form;
    private final Tape tape;
    private final Laws laws;
    private final Plans plans;
    private final Blind rows;
    private final Lots lots;
    private final Goals goals;
    private final Sheets sheets;

    public ForceNet() {
        Net states = new Net();
        Form law = new Form();
        Table table = new Table(states);
        Laws judged = new Laws(states, law, table);
        net = states;
        form = law;
        tape = new Tape();
        laws = judged;
        plans = new Plans(states, law, table, judged);
        rows = new Blind(states, table);
        lots = new Lots(states);
        goals = new Goals(states);
        sheets = new Sheets();
    }

    // ---- 1 the net

    public int net(int s, int p) {
        if (s < 2 || s > STATES || p < 1 || p > PLAYERS) {
            return BAD;
        }
        net.begin(s, p);
        form.becomeTrue();
        lots.player = -1;
        goals.forget();
        plans.forget();
        return 1;
    }

    public int moves(int state, int player, int m) {
        if (!net.hasState(state) || !net.hasPlayer(player) || m < 1 || m > MOVES) {
            return BAD;
        }
        return net.changeMoves(state, player, m);
    }

    public int joint(int state, int group) {
        if (!net.hasState(state) || !net.hasGroup(group)) {
            return BAD;
        }
        return net.ways(state, group);
    }

    public int step(int state, int move, int to) {
        if (!net.hasJoint(state, move) || !net.hasState(to)) {
            return BAD;
        }
        return net.changeTarget(state, move, to);
    }

    public int leads(int state, int move) {
        if (!net.hasJoint(state, move)) {
            return BAD;
        }
        return net.target(state, move);
    }

    public int letters(int state, int bits) {
        if (!net.hasState(state) || bits < 0 || bits >= 1 << LETTERS) {
            return BAD;
        }
        return net.changeLetters(state, bits);
    }

    public int heap(int player, int state, int h) {
        if (!net.hasPlayer(player) || !net.hasState(state) || h < 0 || h >= HEAPS) {
            return BAD;
        }
        return swap(net.heaps, player * STATES + state, h);
    }

    public int price(int state, int player, int move, int cost) {
        if (!net.hasMove(state, player, move) || cost < 0 || cost > COSTS) {
            return BAD;
        }
        return swap(net.prices, (state * PLAYERS + player) * MOVES + move, cost);
    }

    public int steps(int state, int sheet, int lane, int i, int n) {
        if (!net.hasState(state) || !sheets.hasPlace(sheet, lane) || n < 0 || n > ITEMS || n > net.ways(state, net.everyone())) {
            return BAD;
        }
        int wrong = sheets.wrong(sheet, lane, i, n);
        if (wrong != 0) {
            return wrong;
        }
        for (int k = 0; k < n; k++) {
            if (!net.hasState(sheets.read(sheet, i + k))) {
                return NOT;
            }
        }
        for (int k = 0; k < n; k++) {
            net.changeTarget(state, k, sheets.read(sheet, i + k));
        }
        return n;
    }

    // ---- 2 forms

    public int type(long w, int n) {
        if (n < 1 || n > 8) {
            return BAD;
        }
        return tape.add(w, n);
    }

    public int form() {
        int fault = tape.understand(net.players);
        if (fault != 0) {
            return fault;
        }
        form.become(tape.draft);
        return form.parts;
    }

    public int holds() {
        laws.refresh();
        return laws.whole();
    }

    public int part(int k) {
        if (k < 0 || k >= form.parts) {
            return BAD;
        }
        laws.refresh();
        return at(laws.held, k);
    }

    public int force(int state, int group, int set) {
        if (!net.hasState(state) || !net.hasGroup(group) || !net.hasSet(set)) {
            return BAD;
        }
        return net.leastInto(state, group, set) >= 0 ? 1 : 0;
    }

    // ---- 3 plans

    public int round(int state) {
        if (!net.hasState(state)) {
            return BAD;
        }
        if (!form.hasRounds()) {
            return NOT;
        }
        laws.refresh();
        return has(laws.whole(), state) ? at(laws.rounds, state) : NONE;
    }

    public int plan(int state) {
        if (!net.hasState(state)) {
            return BAD;
        }
        if (!form.isOfGroup()) {
            return NOT;
        }
        laws.refresh();
        return plans.move(state);
    }

    public int answer(int state, int move) {
        if (!net.hasState(state)) {
            return BAD;
        }
        // Ahead of the JOINT MOVE: where there is no GROUP, no JOINT MOVE of it can be missing.
        if (!form.isOfGroup()) {
            return NOT;
        }
        if (move < 0 || move >= net.ways(state, form.group(0))) {
            return BAD;
        }
        laws.refresh();
        return plans.hinder(state, move);
    }

    public int toll(int state) {
        if (!net.hasState(state)) {
            return BAD;
        }
        if (!form.hasToll()) {
            return NOT;
        }
        laws.refresh();
        return has(laws.whole(), state) ? plans.leastSum(state) : NONE;
    }

    public int walk(int state, int sheet, int lane, int i, int n) {
        if (!net.hasState(state) || !sheets.hasPlace(sheet, lane) || n < 0 || n > WALK) {
            return BAD;
        }
        int wrong = sheets.wrong(sheet, lane, i, n);
        if (wrong != 0) {
            return wrong;
        }
        if (!form.isOfGroup() || sheets.hasBelowZero(sheet, i, n)) {
            return NOT;
        }
        laws.refresh();
        plans.startWalk(state);
        for (int k = 0; k < n; k++) {
            plans.goOn(sheets.read(sheet, i + k));
        }
        return plans.behind(n);
    }

    public int walked(int k) {
        return plans.behind(k);
    }

    // ---- 4 blind

    public int blind(int state) {
        if (!net.hasState(state)) {
            return BAD;
        }
        if (!form.isOfGroup()) {
            return NOT;
        }
        laws.refresh();
        int found = findRow(state);
        return found == NONE ? 0 : found;
    }

    public int blindMove(int state, int player, int heap) {
        if (!net.hasState(state) || !net.hasPlayer(player) || heap < 0 || heap >= HEAPS) {
            return BAD;
        }
        if (!form.isOfGroup()) {
            return NOT;
        }
        if (!has(form.group(0), player) || net.leastMoves(player, heap) == 0) {
            return BAD;
        }
        laws.refresh();
        int found = findRow(state);
        return found == 1 ? at(rows.row, player * HEAPS + heap) : found;
    }

    /** 1: the first row that does for a STATE stands in rows; NONE, SPENT. Waits for fresh laws. */
    private int findRow(int state) {
        int group = form.group(0);
        if (rows.prepare(group) > Blind.MOST) {
            return SPENT;
        }
        int first = at(laws.held, form.left(0));
        int second = at(laws.held, form.right(0));
        rows.want(form.kind(0), first, second);
        return rows.search(rows.fit(state)) ? 1 : NONE;
    }

    // ---- 5 lots, goals, helpers

    public int choose(int player, int state, int move) {
        if (!net.hasMove(state, player, move)) {
            return BAD;
        }
        return swap(net.chosen, state * PLAYERS + player, move);
    }

    public int lot(int player) {
        if (player != -1 && !net.hasPlayer(player)) {
            return BAD - 10;
        }
        int was = lots.player;
        lots.player = player;
        return was;
    }

    public long chance(int state, int what) {
        if (!net.hasState(state) || what < 0 || what > 1) {
            return BAD;
        }
        laws.refresh();
        lots.weigh(state, laws.whole());
        return what == 0 ? lots.above : lots.below;
    }

    public int goal(int player, int set) {
        if (!net.hasPlayer(player) || !net.hasSet(set)) {
            return BAD;
        }
        return swap(goals.sets, player, set);
    }

    public int content(int state) {
        if (!net.hasState(state)) {
            return BAD;
        }
        return goals.meeting(goals.passed(net.chosen, state));
    }

    public int stable(int state) {
        if (!net.hasState(state)) {
            return BAD;
        }
        return goals.isStable(net.chosen, state) ? 1 : 0;
    }

    public int settle(int state) {
        if (!net.hasState(state)) {
            return BAD;
        }
        if (net.allPlans() > Goals.MOST) {
            return SPENT;
        }
        if (!goals.search(state)) {
            return NONE;
        }
        System.arraycopy(goals.tried, 0, net.chosen, 0, STATES * PLAYERS);
        return goals.meeting(goals.passed(net.chosen, state));
    }

    public int helpers(int state) {
        if (!net.hasState(state)) {
            return BAD;
        }
        if (!form.isOfGroup()) {
            return NOT;
        }
        laws.refresh();
        return laws.fewestMore(state);
    }

    public int count(int what) {
        switch (what) {
            case 0:
                return net.states;
            case 1:
                return net.players;
            case 2:
                return form.parts;
            case 3:
                return net.allPlans();
            default:
                return BAD;
        }
    }

    // ---- 6 sheets

    public int sheet(int sheet, int lane, int n) {
        if (!sheets.hasPlace(sheet, lane) || n > ITEMS) {
            return BAD;
        }
        if (n < 0) {
            return SIZE;
        }
        sheets.start(sheet, lane, n);
        return n;
    }

    public int drop(int sheet) {
        if (!sheets.hasPlace(sheet, 0)) {
            return BAD;
        }
        if (sheets.isEmptyPlace(sheet)) {
            return NULL;
        }
        return sheets.empty(sheet);
    }

    public int item(int sheet, int lane, int i, int v) {
        if (!sheets.hasPlace(sheet, lane)) {
            return BAD;
        }
        int wrong = sheets.wrong(sheet, lane, i, 1);
        if (wrong != 0) {
            return wrong;
        }
        sheets.write(sheet, i, v);
        return 1;
    }

    public int copy(int from, int i, int to, int j, int n) {
        if (!sheets.hasPlace(from, 0) || !sheets.hasPlace(to, 0)) {
            return BAD;
        }
        if (sheets.isEmptyPlace(from) || sheets.isEmptyPlace(to)) {
            return NULL;
        }
        if (at(sheets.lanes, from) != at(sheets.lanes, to)) {
            return CAST;
        }
        if (!sheets.hasItems(from, i, n) || !sheets.hasItems(to, j, n)) {
            return INDEX;
        }
        System.arraycopy(sheets.items, from * ITEMS + i, sheets.items, to * ITEMS + j, n);
        return n;
    }

    // ---- what all classes here use

    /** What a row has at a place; 0 where there is no such place. */
    private static int at(int[] row, int i) {
        return i >= 0 && i < row.length ? row[i] : 0;
    }

    private static void put(int[] row, int i, int value) {
        if (i >= 0 && i < row.length) {
            row[i] = value;
        }
    }

    /** Puts a value and answers the one that was there. */
    private static int swap(int[] row, int i, int value) {
        int was = at(row, i);
        put(row, i, value);
        return was;
    }

    private static boolean has(int bits, int i) {
        return (bits >> i & 1) != 0;
    }

    /** The least thing in a set that is not empty. */
    private static int lowest(int bits) {
        return Integer.bitCount(bits - 1 & ~bits);
    }

    private static int over(int number, int base) {
        return base < 1 ? 0 : number / base;
    }

    private static int rest(int number, int base) {
        return base < 1 ? 0 : number % base;
    }

    /** STATES, PLAYERS, their MOVES, and where these lead. */
    private static final class Net {
        int states;
        int players;
        // Told anew by every change on which it hangs where a FORM HOLDS.
        int version;
        final int[] moves = new int[STATES * PLAYERS];
        final int[] chosen = new int[STATES * PLAYERS];
        final int[] prices = new int[STATES * PLAYERS * MOVES];
        final int[] targets = new int[STATES * JOINTS];
        final int[] letters = new int[STATES];
        final int[] heaps = new int[PLAYERS * STATES];

        Net() {
            begin(4, 2);
        }

        void begin(int s, int p) {
            states = s;
            players = p;
            Arrays.fill(moves, 1);
            Arrays.fill(letters, 0);
            for (int state = 0; state < STATES; state++) {
                leadBack(state);
                for (int player = 0; player < PLAYERS; player++) {
                    put(heaps, player * STATES + state, state);
                }
            }
            version++;
        }

        private void leadBack(int state) {
            for (int j = 0; j < JOINTS; j++) {
                put(targets, state * JOINTS + j, state);
            }
            for (int k = 0; k < PLAYERS; k++) {
                put(chosen, state * PLAYERS + k, 0);
            }
            for (int k = 0; k < PLAYERS * MOVES; k++) {
                put(prices, state * PLAYERS * MOVES + k, 0);
            }
        }

        boolean hasState(int state) {
            return state >= 0 && state < states;
        }

        boolean hasPlayer(int player) {
            return player >= 0 && player < players;
        }

        boolean hasGroup(int group) {
            return group >= 0 && group <= everyone();
        }

        boolean hasSet(int set) {
            return set >= 0 && set <= everywhere();
        }

        boolean hasMove(int state, int player, int move) {
            return hasState(state) && hasPlayer(player) && move >= 0 && move < movesOf(state, player);
        }

        boolean hasJoint(int state, int number) {
            return hasState(state) && number >= 0 && number < ways(state, everyone());
        }

        int everyone() {
            return (1 << players) - 1;
        }

        int everywhere() {
            return (1 << states) - 1;
        }

        int movesOf(int state, int player) {
            return at(moves, state * PLAYERS + player);
        }

        int heapOf(int player, int state) {
            return at(heaps, player * STATES + state);
        }

        int target(int state, int number) {
            return at(targets, state * JOINTS + number);
        }

        int changeMoves(int state, int player, int m) {
            version++;
            leadBack(state);
            return swap(moves, state * PLAYERS + player, m);
        }

        int changeTarget(int state, int number, int to) {
            version++;
            return swap(targets, state * JOINTS + number, to);
        }

        int changeLetters(int state, int bits) {
            version++;
            return swap(letters, state, bits);
        }

        /** STATES that have a LETTER. */
        int bearing(int letter) {
            int set = 0;
            for (int s = 0; s < states; s++) {
                if (has(at(letters, s), letter)) {
                    set |= 1 << s;
                }
            }
            return set;
        }

        /** How many JOINT MOVES a GROUP has. */
        int ways(int state, int group) {
            int all = 1;
            for (int p = 0; p < players; p++) {
                if (has(group, p)) {
                    all *= movesOf(state, p);
                }
            }
            return all;
        }

        /** The JOINT MOVE of all that a GROUP's and the others' make. */
        int together(int state, int group, int mine, int theirs) {
            int ours = mine;
            int others = theirs;
            int number = 0;
            int scale = 1;
            for (int p = players - 1; p >= 0; p--) {
                int m = movesOf(state, p);
                if (has(group, p)) {
                    number += rest(ours, m) * scale;
                    ours = over(ours, m);
                } else {
                    number += rest(others, m) * scale;
                    others = over(others, m);
                }
                scale *= m;
            }
            return number;
        }

        /** The least JOINT MOVE of a GROUP with which all of the others lead into a set; -1: none. */
        int leastInto(int state, int group, int set) {
            int ours = ways(state, group);
            int others = ways(state, everyone() & ~group);
            for (int mine = 0; mine < ours; mine++) {
                int inside = 0;
                for (int theirs = 0; theirs < others; theirs++) {
                    if (has(set, target(state, together(state, group, mine, theirs)))) {
                        inside++;
                    }
                }
                if (inside == others) {
                    return mine;
                }
            }
            return -1;
        }

        int sumOfPrices(int state, int group, int mine) {
            int left = mine;
            int sum = 0;
            for (int p = players - 1; p >= 0; p--) {
                if (has(group, p)) {
                    int m = movesOf(state, p);
                    sum += at(prices, (state * PLAYERS + p) * MOVES + rest(left, m));
                    left = over(left, m);
                }
            }
            return sum;
        }

        /** The least m of the STATES that a PLAYER has in a HEAP; 0: there are none. */
        int leastMoves(int player, int heap) {
            int least = 0;
            for (int s = 0; s < states; s++) {
                if (heapOf(player, s) == heap && (least == 0 || movesOf(s, player) < least)) {
                    least = movesOf(s, player);
                }
            }
            return least;
        }

        /** Where PLANS lead, but that one PLAYER (-1: nobody) takes a MOVE of its own. */
        int next(int[] picks, int state, int player, int move) {
            int number = 0;
            for (int p = 0; p < players; p++) {
                int pick = p == player ? move : at(picks, state * PLAYERS + p);
                number = number * movesOf(state, p) + pick;
            }
            return target(state, number);
        }

        int allPlans() {
            long all = 1;
            for (int s = 0; s < states; s++) {
                all = Math.min(all * ways(s, everyone()), 2000000000L);
            }
            return (int) all;
        }
    }

    /** Parts by where they begin: what is within a part stands behind it. */
    private static final class Form {
        static final int TRUE = 0;
        static final int LETTER = 1;
        static final int UNLIKE = 2;
        static final int BOTH = 3;
        static final int EITHER = 4;
        static final int NEXT = 5;
        static final int ALWAYS = 6;
        static final int AT_LAST = 7;
        static final int UNTIL = 8;
        static final int AGAIN = 9;

        int parts;
        int version;
        final int[] kinds = new int[PARTS];
        // Of a LETTER: which one; of others: the first part within.
        final int[] lefts = new int[PARTS];
        final int[] rights = new int[PARTS];
        final int[] groups = new int[PARTS];

        Form() {
            becomeTrue();
        }

        void becomeTrue() {
            clear();
            set(add(0), TRUE, 0, 0);
        }

        void clear() {
            parts = 0;
            version++;
        }

        int add(int group) {
            int k = parts;
            put(groups, k, group);
            parts++;
            return k;
        }

        void set(int k, int kind, int left, int right) {
            put(kinds, k, kind);
            put(lefts, k, left);
            put(rights, k, right);
        }

        void become(Form other) {
            clear();
            for (int k = 0; k < other.parts; k++) {
                set(add(other.group(k)), other.kind(k), other.left(k), other.right(k));
            }
        }

        int kind(int k) {
            return at(kinds, k);
        }

        int left(int k) {
            return at(lefts, k);
        }

        int right(int k) {
            return at(rights, k);
        }

        int group(int k) {
            return at(groups, k);
        }

        boolean isLaw(int k) {
            return kind(k) >= NEXT;
        }

        boolean isOfGroup() {
            return isLaw(0);
        }

        boolean hasRounds() {
            return kind(0) >= AT_LAST;
        }

        boolean hasToll() {
            return kind(0) == AT_LAST || kind(0) == UNTIL;
        }
    }

    /** THE TAPE and the reading of it. */
    private static final class Tape {
        static final int END = -1;
        static final int FAULTS = -20;

        final int[] bytes = new int[TAPE];
        final Form draft = new Form();
        int length;
        private int place;
        private int fault;
        private int players;

        int add(long w, int n) {
            for (int i = 0; i < n; i++) {
                int sign = byteOf(w, i);
                if (sign < 32 || sign > 126) {
                    return BAD;
                }
            }
            if (n > TAPE - length) {
                return FULL;
            }
            for (int i = n - 1; i >= 0; i--) {
                put(bytes, length, byteOf(w, i));
                length++;
            }
            return length;
        }

        private static int byteOf(long w, int i) {
            return (int) (w >> 8 * i) & 255;
        }

        /** Reads the whole TAPE into the draft and empties it: 0, or a FAULT. */
        int understand(int known) {
            players = known;
            place = 0;
            fault = -1;
            draft.clear();
            if (readForm(0) && here() != END) {
                refuse();
            }
            length = 0;
            return fault < 0 ? 0 : FAULTS - fault;
        }

        /** The next byte behind blanks. */
        private int here() {
            while (place < length && at(bytes, place) == ' ') {
                place++;
            }
            return place < length ? at(bytes, place) : END;
        }

        private boolean refuse() {
            fault = place;
            return false;
        }

        private boolean take(int sign) {
            if (here() != sign) {
                return refuse();
            }
            place++;
            return true;
        }

        /** A FORM inside as many parts as depth tells; false: the fault stands. */
        private boolean readForm(int depth) {
            int sign = here();
            if (depth >= PARTS || draft.parts >= PARTS) {
                return refuse();
            }
            if (sign == 'T' || sign >= 'a' && sign <= 'h') {
                place++;
                draft.set(draft.add(0), sign == 'T' ? Form.TRUE : Form.LETTER, sign - 'a', 0);
                return true;
            }
            if (sign != '!' && sign != '(' && sign != '<') {
                return refuse();
            }
            place++;
            int k = draft.add(0);
            if (sign == '!') {
                draft.set(k, Form.UNLIKE, k + 1, 0);
                return readForm(depth + 1);
            }
            return sign == '(' ? readPair(k, false, depth) : readGroup(k) && readLaw(k, depth);
        }

        /** The digits of a GROUP behind its <, and its >. */
        private boolean readGroup(int k) {
            int group = 0;
            int least = 0;
            for (int turn = 0; turn < PLAYERS; turn++) {
                int player = here() - '0';
                if (player < least || player >= players) {
                    break;
                }
                group |= 1 << player;
                least = player + 1;
                place++;
            }
            put(draft.groups, k, group);
            return take('>');
        }

        /** What stands behind a GROUP. */
        private boolean readLaw(int k, int depth) {
            int sign = here();
            int kind = lawKind(sign);
            if (kind < 0) {
                return refuse();
            }
            place++;
            if (kind == Form.UNTIL) {
                return readPair(k, true, depth);
            }
            draft.set(k, kind, k + 1, 0);
            return readForm(depth + 1);
        }

        /** Two FORMS behind a bracket; of a GROUP, U alone may stand between them. */
        private boolean readPair(int k, boolean ofGroup, int depth) {
            if (!readForm(depth + 1)) {
                return false;
            }
            int kind = pairKind(here());
            if (kind < 0 || ofGroup != (kind == Form.UNTIL)) {
                return refuse();
            }
            place++;
            draft.set(k, kind, k + 1, draft.parts);
            return readForm(depth + 1) && take(')');
        }

        private static int lawKind(int sign) {
            switch (sign) {
                case 'X':
                    return Form.NEXT;
                case 'G':
                    return Form.ALWAYS;
                case 'F':
                    return Form.AT_LAST;
                case 'I':
                    return Form.AGAIN;
                case '(':
                    return Form.UNTIL;
                default:
                    return -1;
            }
        }

        private static int pairKind(int sign) {
            switch (sign) {
                case '&':
                    return Form.BOTH;
                case '|':
                    return Form.EITHER;
                case 'U':
                    return Form.UNTIL;
                default:
                    return -1;
            }
        }
    }

    /** Of one GROUP: the STATES to which each of its JOINT MOVES may lead, kept while the net stays. */
    private static final class Table {
        final Net net;
        final int[] ends = new int[STATES * JOINTS];
        final int[] ways = new int[STATES];
        // By JOINT MOVES of all: the GROUP's JOINT MOVE within.
        final int[] shares = new int[JOINTS];
        int group = -1;
        int version = -1;

        Table(Net net) {
            this.net = net;
        }

        void prepare(int wanted) {
            if (wanted == group && version == net.version) {
                return;
            }
            group = wanted;
            version = net.version;
            Arrays.fill(ends, 0);
            for (int s = 0; s < net.states; s++) {
                fill(s);
            }
        }

        private void fill(int s) {
            put(ways, s, net.ways(s, group));
            int all = share(s);
            for (int j = 0; j < all; j++) {
                int spot = s * JOINTS + at(shares, j);
                put(ends, spot, at(ends, spot) | 1 << net.target(s, j));
            }
        }

        /** Tells shares, a PLAYER more each turn, from the back, so that none is lost: how many JOINT MOVES of all. */
        private int share(int s) {
            int all = 1;
            put(shares, 0, 0);
            for (int p = 0; p < net.players; p++) {
                int m = net.movesOf(s, p);
                for (int j = all - 1; j >= 0; j--) {
                    int mine = at(shares, j);
                    for (int k = 0; k < m; k++) {
                        put(shares, j * m + k, has(group, p) ? mine * m + k : mine);
                    }
                }
                all *= m;
            }
            return all;
        }

        int endsOf(int s, int mine) {
            return at(ends, s * JOINTS + mine);
        }

        /** The least JOINT MOVE of the GROUP that leads into a set alone; -1: none. */
        int leastInto(int s, int set) {
            int all = at(ways, s);
            for (int mine = 0; mine < all; mine++) {
                if ((at(ends, s * JOINTS + mine) & ~set) == 0) {
                    return mine;
                }
            }
            return -1;
        }

        /** STATES of a set in which the GROUP can FORCE another. */
        int forcing(int from, int set) {
            int able = 0;
            for (int s = 0; s < net.states; s++) {
                if (has(from, s) && leastInto(s, set) >= 0) {
                    able |= 1 << s;
                }
            }
            return able;
        }
    }

    /** Where each part of THE FORM HOLDS, and the ROUNDS of the OUTERMOST. */
    private static final class Laws {
        // All sets of PLAYERS as bits: the fewer first, of as few the one with the lesser PLAYERS first (0 and 3 ahead of 1 and 2).
        static final int[] HELPERS = {0, 1, 2, 4, 8, 3, 5, 9, 6, 10, 12, 7, 11, 13, 14, 15};

        final Net net;
        final Form form;
        final Table table;
        final int[] held = new int[PARTS];
        final int[] rounds = new int[STATES];
        private int netVersion = -1;
        private int formVersion = -1;

        Laws(Net net, Form form, Table table) {
            this.net = net;
            this.form = form;
            this.table = table;
        }

        int whole() {
            return at(held, 0);
        }

        /** From the last part to the first: what is within a part is told ahead of it, and the table stays the OUTERMOST's. */
        void refresh() {
            if (netVersion != net.version || formVersion != form.version) {
                for (int k = form.parts - 1; k >= 0; k--) {
                    if (form.isLaw(k)) {
                        table.prepare(form.group(k));
                    }
                    put(held, k, judge(k));
                }
                netVersion = net.version;
                formVersion = form.version;
            }
        }

        /** By the table, which its caller prepared for the part's GROUP. */
        private int judge(int k) {
            int first = at(held, form.left(k));
            int second = at(held, form.right(k));
            int all = net.everywhere();
            switch (form.kind(k)) {
                case Form.TRUE:
                    return all;
                case Form.LETTER:
                    return net.bearing(form.left(k));
                case Form.UNLIKE:
                    return all & ~first;
                case Form.BOTH:
                    return first & second;
                case Form.EITHER:
                    return first | second;
                case Form.NEXT:
                    return table.forcing(all, first);
                case Form.ALWAYS:
                    return always(first);
                case Form.AT_LAST:
                    return until(all, first);
                case Form.UNTIL:
                    return until(first, second);
                default:
                    return again(first);
            }
        }

        private int always(int first) {
            int set = first;
            for (int turn = 0; turn < STATES; turn++) {
                set = table.forcing(set, set);
            }
            return set;
        }

        private int until(int first, int second) {
            int told = second;
            for (int s = 0; s < STATES; s++) {
                put(rounds, s, has(second, s) ? 0 : -1);
            }
            for (int turn = 1; turn <= STATES; turn++) {
                int come = table.forcing(first & ~told, told);
                if (come == 0) {
                    break;
                }
                mark(come, turn);
                told |= come;
            }
            return told;
        }

        private void mark(int set, int turn) {
            for (int s = 0; s < STATES; s++) {
                if (has(set, s)) {
                    put(rounds, s, turn);
                }
            }
        }

        /** The set can shrink once a STATE: the last turn then finds it as it was. */
        private int again(int first) {
            int set = net.everywhere();
            for (int turn = 0; turn <= STATES; turn++) {
                int less = until(net.everywhere(), table.forcing(first, set));
                if (less == set) {
                    break;
                }
                set = less;
            }
            return set;
        }

        /** STATES whose ROUND is below a ROUND. */
        int ahead(int turn) {
            int set = 0;
            for (int s = 0; s < net.states; s++) {
                if (at(rounds, s) >= 0 && at(rounds, s) < turn) {
                    set |= 1 << s;
                }
            }
            return set;
        }

        int fewestMore(int state) {
            int found = NONE;
            int mine = form.group(0);
            for (int i = 0; i < HELPERS.length && found == NONE; i++) {
                int more = at(HELPERS, i);
                if (net.hasGroup(more) && (more & mine) == 0) {
                    table.prepare(mine | more);
                    found = has(judge(0), state) ? more : NONE;
                }
            }
            // The ROUNDS are those of another GROUP now.
            netVersion = -1;
            return found;
        }
    }

    /** PLANS, ANSWERS, TOLLS and walks; all but the walk wait for fresh laws. */
    private static final class Plans {
        static final int FAR = 1000000;

        final Net net;
        final Form form;
        final Table table;
        final Laws laws;
        final int[] tolls = new int[STATES];
        final int[] trail = new int[WALK + 1];
        int trailLength;

        Plans(Net net, Form form, Table table, Laws laws) {
            this.net = net;
            this.form = form;
            this.table = table;
            this.laws = laws;
        }

        /** The PLAN's JOINT MOVE, or NONE. */
        int move(int state) {
            if (!has(laws.whole(), state)) {
                return NONE;
            }
            int least = table.leastInto(state, aim(state));
            return least < 0 ? NONE : least;
        }

        /** Where the PLAN leads: nowhere from ROUND 0 of F and U. */
        private int aim(int state) {
            int turn = at(laws.rounds, state);
            switch (form.kind(0)) {
                case Form.NEXT:
                    return at(laws.held, form.left(0));
                case Form.ALWAYS:
                    return laws.whole();
                case Form.AGAIN:
                    return turn == 0 ? laws.whole() : laws.ahead(turn);
                default:
                    return laws.ahead(turn);
            }
        }

        int hinder(int state, int mine) {
            int group = form.group(0);
            int wanted = form.kind(0) == Form.NEXT ? at(laws.held, form.left(0)) : laws.whole();
            int others = net.ways(state, net.everyone() & ~group);
            for (int theirs = 0; theirs < others; theirs++) {
                if (!has(wanted, net.target(state, net.together(state, group, mine, theirs)))) {
                    return theirs;
                }
            }
            return NONE;
        }

        /** A PLAN of the least sum meets no STATE twice: so as many turns do as there are STATES. */
        int leastSum(int state) {
            for (int s = 0; s < STATES; s++) {
                put(tolls, s, FAR);
            }
            for (int turn = 0; turn <= net.states; turn++) {
                for (int s = 0; s < net.states; s++) {
                    if (has(laws.whole(), s)) {
                        put(tolls, s, at(laws.rounds, s) == 0 ? 0 : cheapest(s));
                    }
                }
            }
            return at(tolls, state);
        }

        private int cheapest(int s) {
            int least = FAR;
            int all = at(table.ways, s);
            for (int mine = 0; mine < all; mine++) {
                int sum = net.sumOfPrices(s, form.group(0), mine) + worst(table.endsOf(s, mine));
                least = Math.min(least, sum);
            }
            return least;
        }

        private int worst(int set) {
            int most = 0;
            for (int s = 0; s < net.states; s++) {
                if (has(set, s)) {
                    most = Math.max(most, at(tolls, s));
                }
            }
            return most;
        }

        void forget() {
            trailLength = 0;
        }

        void startWalk(int state) {
            put(trail, 0, state);
            trailLength = 1;
        }

        void goOn(int wish) {
            int state = at(trail, trailLength - 1);
            int group = form.group(0);
            int theirs = rest(wish, net.ways(state, net.everyone() & ~group));
            int mine = Math.max(move(state), 0);
            put(trail, trailLength, net.target(state, net.together(state, group, mine, theirs)));
            trailLength++;
        }

        int behind(int k) {
            return k >= 0 && k < trailLength ? at(trail, k) : BAD;
        }
    }

    /** ROWS OF MOVES by HEAPS. */
    private static final class Blind {
        static final int MOST = 5000;

        final Net net;
        final Table table;
        // By PLAYER and HEAP: the MOVE; how many there are (0: the HEAP has no STATE, or the PLAYER is not of the GROUP).
        final int[] row = new int[PLAYERS * HEAPS];
        final int[] bases = new int[PLAYERS * HEAPS];
        // Where the row may lead from a STATE.
        final int[] ends = new int[STATES];
        private int group;
        private int kind;
        private int first;
        private int second;

        Blind(Net net, Table table) {
            this.net = net;
            this.table = table;
        }

        /** How many rows a GROUP has; of too many, just that there are. */
        int prepare(int wanted) {
            group = wanted;
            int all = 1;
            for (int p = 0; p < PLAYERS; p++) {
                for (int h = 0; h < HEAPS; h++) {
                    int m = p < net.players && has(group, p) ? net.leastMoves(p, h) : 0;
                    put(bases, p * HEAPS + h, m);
                    all = Math.min(all * Math.max(m, 1), MOST + 1);
                }
            }
            return all;
        }

        void want(int lawKind, int left, int right) {
            kind = lawKind;
            first = left;
            second = right;
        }

        /** The STATE, and all that some PLAYER of the GROUP has in one HEAP with it. */
        int fit(int state) {
            int set = 1 << state;
            for (int p = 0; p < net.players; p++) {
                for (int s = 0; s < net.states; s++) {
                    if (has(group, p) && net.heapOf(p, s) == net.heapOf(p, state)) {
                        set |= 1 << s;
                    }
                }
            }
            return set;
        }

        /** Whether some row does for all of a set; it stands in row then. */
        boolean search(int fit) {
            Arrays.fill(row, 0);
            for (int turn = 0; turn < MOST; turn++) {
                if (does(fit)) {
                    return true;
                }
                if (!advance()) {
                    return false;
                }
            }
            return false;
        }

        private boolean advance() {
            for (int i = PLAYERS * HEAPS - 1; i >= 0; i--) {
                if (at(row, i) + 1 < at(bases, i)) {
                    put(row, i, at(row, i) + 1);
                    return true;
                }
                put(row, i, 0);
            }
            return false;
        }

        private boolean does(int fit) {
            int met = spread(fit);
            switch (kind) {
                case Form.NEXT:
                    return (endsOfAll(fit) & ~first) == 0;
                case Form.ALWAYS:
                    return (met & ~first) == 0;
                case Form.AGAIN:
                    return staying(met & ~first) == 0;
                case Form.UNTIL:
                    return (fit & ~sure(met & first, second)) == 0;
                default:
                    return (fit & ~sure(met, first)) == 0;
            }
        }

        /** All STATES that may be come to from a set, itself too; their ends are told then. */
        private int spread(int from) {
            int met = from;
            int open = from;
            for (int turn = 0; turn < STATES && open != 0; turn++) {
                int s = lowest(open);
                int next = endsBy(s);
                put(ends, s, next);
                open = open & ~(1 << s) | next & ~met;
                met |= next;
            }
            return met;
        }

        private int endsBy(int s) {
            int mine = 0;
            for (int p = 0; p < net.players; p++) {
                if (has(group, p)) {
                    int pick = at(row, p * HEAPS + at(net.heaps, p * STATES + s));
                    mine = mine * at(net.moves, s * PLAYERS + p) + pick;
                }
            }
            return at(table.ends, s * JOINTS + mine);
        }

        private int endsOfAll(int set) {
            int all = 0;
            for (int s = 0; s < net.states; s++) {
                if (has(set, s)) {
                    all |= at(ends, s);
                }
            }
            return all;
        }

        /** STATES of a set in which others can stay for ever. */
        private int staying(int set) {
            int left = set;
            for (int turn = 0; turn < STATES; turn++) {
                for (int s = 0; s < net.states; s++) {
                    if (has(left, s) && (at(ends, s) & left) == 0) {
                        left &= ~(1 << s);
                    }
                }
            }
            return left;
        }

        /** A set, and STATES of a way from which it is come to whatever others do. */
        private int sure(int way, int set) {
            int told = set;
            for (int turn = 0; turn < STATES; turn++) {
                for (int s = 0; s < net.states; s++) {
                    if (has(way, s) && (at(ends, s) & ~told) == 0) {
                        told |= 1 << s;
                    }
                }
            }
            return told;
        }
    }

    /** THE CHANCE, by equations in whole numbers: one for each STATE that is open, the one asked for last. */
    private static final class Lots {
        static final int WIDTH = STATES + 1;

        final Net net;
        int player = -1;
        long above;
        long below;
        // By STATE and STATE: with how many MOVES of THE LOT the one leads to the other.
        final int[] counts = new int[STATES * STATES];
        final int[] totals = new int[STATES];
        final int[] order = new int[STATES];
        final long[] grid = new long[STATES * WIDTH];

        Lots(Net net) {
            this.net = net;
        }

        void weigh(int state, int set) {
            above = has(set, state) ? 1 : 0;
            below = 1;
            if (above == 1) {
                return;
            }
            countAll();
            int open = coming(set) & ~set;
            if (has(open, state)) {
                int size = line(open, state);
                write(size, set);
                solve(size);
                above = cell(size - 1, size);
                below = cell(size - 1, size - 1);
                shorten();
            }
        }

        private void countAll() {
            Arrays.fill(counts, 0);
            for (int s = 0; s < net.states; s++) {
                int all = player < 0 ? 1 : net.movesOf(s, player);
                put(totals, s, all);
                for (int k = 0; k < all; k++) {
                    int spot = s * STATES + net.next(net.chosen, s, player, k);
                    put(counts, spot, at(counts, spot) + 1);
                }
            }
        }

        /** STATES from which a set may be come to: from no other is there an equation. */
        private int coming(int set) {
            int told = set;
            for (int turn = 0; turn < STATES; turn++) {
                for (int s = 0; s < net.states; s++) {
                    if (countInto(s, told) > 0) {
                        told |= 1 << s;
                    }
                }
            }
            return told;
        }

        private int countInto(int s, int set) {
            int sum = 0;
            for (int t = 0; t < net.states; t++) {
                if (has(set, t)) {
                    sum += at(counts, s * STATES + t);
                }
            }
            return sum;
        }

        private int line(int open, int last) {
            int size = 0;
            for (int s = 0; s < net.states; s++) {
                if (has(open, s) && s != last) {
                    put(order, size, s);
                    size++;
                }
            }
            put(order, size, last);
            return size + 1;
        }

        private void write(int size, int set) {
            for (int i = 0; i < size; i++) {
                int s = at(order, i);
                for (int j = 0; j < size; j++) {
                    int own = i == j ? at(totals, s) : 0;
                    setCell(i, j, own - at(counts, s * STATES + at(order, j)));
                }
                setCell(i, size, countInto(s, set));
            }
        }

        /** Each cell becomes a minor: the divisions leave no rest, and no leading one is 0. */
        private void solve(int size) {
            long before = 1;
            for (int k = 0; k + 1 < size; k++) {
                for (int i = k + 1; i < size; i++) {
                    clearBelow(i, k, size, before);
                }
                before = cell(k, k);
            }
        }

        private void clearBelow(int i, int k, int size, long before) {
            long first = cell(i, k);
            for (int j = k; j <= size; j++) {
                long cross = cell(k, k) * cell(i, j) - first * cell(k, j);
                setCell(i, j, before == 0 ? 0 : cross / before);
            }
        }

        private long cell(int i, int j) {
            int spot = i * WIDTH + j;
            return spot >= 0 && spot < grid.length ? grid[spot] : 0;
        }

        private void setCell(int i, int j, long value) {
            int spot = i * WIDTH + j;
            if (spot >= 0 && spot < grid.length) {
                grid[spot] = value;
            }
        }

        private void shorten() {
            long big = below;
            long small = above;
            for (int turn = 0; turn < 1000 && small != 0; turn++) {
                long left = big % small;
                big = small;
                small = left;
            }
            if (big != 0) {
                above /= big;
                below /= big;
            }
        }
    }

    /** GOALS, and PLANS that nobody alone would change. */
    private static final class Goals {
        static final int MOST = 20000;

        final Net net;
        final int[] sets = new int[PLAYERS];
        final int[] tried = new int[STATES * PLAYERS];

        Goals(Net net) {
            this.net = net;
        }

        void forget() {
            Arrays.fill(sets, 0);
        }

        /** STATES on the row that PLANS make from one on. */
        int passed(int[] picks, int state) {
            int met = 0;
            int s = state;
            for (int turn = 0; turn < STATES && !has(met, s); turn++) {
                met |= 1 << s;
                s = net.next(picks, s, -1, 0);
            }
            return met;
        }

        /** PLAYERS whose GOAL a set meets. */
        int meeting(int met) {
            int who = 0;
            for (int p = 0; p < net.players; p++) {
                if ((at(sets, p) & met) != 0) {
                    who |= 1 << p;
                }
            }
            return who;
        }

        boolean isStable(int[] picks, int state) {
            int who = meeting(passed(picks, state));
            for (int p = 0; p < net.players; p++) {
                if (!has(who, p) && at(sets, p) != 0 && couldMeet(picks, state, p)) {
                    return false;
                }
            }
            return true;
        }

        /** Whether a PLAYER, alone, could come to its GOAL: no STATE twice, so one MOVE in each does. */
        private boolean couldMeet(int[] picks, int state, int player) {
            int met = 1 << state;
            int open = met;
            for (int turn = 0; turn < STATES && open != 0; turn++) {
                int s = lowest(open);
                open &= ~(1 << s);
                int all = net.movesOf(s, player);
                for (int k = 0; k < all; k++) {
                    int next = 1 << net.next(picks, s, player, k);
                    open |= next & ~met;
                    met |= next;
                }
            }
            return (met & at(sets, player)) != 0;
        }

        /** Whether some PLANS are STABLE; the first of them stand in tried then. */
        boolean search(int state) {
            Arrays.fill(tried, 0);
            for (int turn = 0; turn < MOST; turn++) {
                if (isStable(tried, state)) {
                    return true;
                }
                if (!advance()) {
                    return false;
                }
            }
            return false;
        }

        private boolean advance() {
            for (int p = net.players - 1; p >= 0; p--) {
                for (int s = net.states - 1; s >= 0; s--) {
                    int spot = s * PLAYERS + p;
                    if (at(tried, spot) + 1 < net.movesOf(s, p)) {
                        put(tried, spot, at(tried, spot) + 1);
                        return true;
                    }
                    put(tried, spot, 0);
                }
            }
            return false;
        }
    }

    /** Rows of items; LANE -1: a SHEET holds nothing. */
    private static final class Sheets {
        static final int NOTHING = -1;

        final int[] lanes = new int[SHEETS];
        final int[] sizes = new int[SHEETS];
        // Every item is written as an int: so an int holds it in each LANE.
        final int[] items = new int[SHEETS * ITEMS];

        Sheets() {
            Arrays.fill(lanes, NOTHING);
        }

        boolean hasPlace(int sheet, int lane) {
            return sheet >= 0 && sheet < SHEETS && lane >= 0 && lane < LANES;
        }

        boolean isEmptyPlace(int sheet) {
            return at(lanes, sheet) == NOTHING;
        }

        boolean hasItems(int sheet, int i, int n) {
            int size = at(sizes, sheet);
            return n >= 0 && i >= 0 && i <= size && n <= size - i;
        }

        /** What the machine finds in n items from i on, taken as a row of a LANE; 0: nothing. */
        int wrong(int sheet, int lane, int i, int n) {
            if (isEmptyPlace(sheet)) {
                return NULL;
            }
            if (at(lanes, sheet) != lane) {
                return CAST;
            }
            return hasItems(sheet, i, n) ? 0 : INDEX;
        }

        void start(int sheet, int lane, int n) {
            put(lanes, sheet, lane);
            put(sizes, sheet, n);
            for (int i = 0; i < ITEMS; i++) {
                put(items, sheet * ITEMS + i, 0);
            }
        }

        int empty(int sheet) {
            put(lanes, sheet, NOTHING);
            return at(sizes, sheet);
        }

        int read(int sheet, int i) {
            return at(items, sheet * ITEMS + i);
        }

        void write(int sheet, int i, int v) {
            put(items, sheet * ITEMS + i, at(lanes, sheet) == 0 ? (byte) v : v);
        }

        boolean hasBelowZero(int sheet, int i, int n) {
            for (int k = 0; k < n; k++) {
                if (read(sheet, i + k) < 0) {
                    return true;
                }
            }
            return false;
        }
    }
}
