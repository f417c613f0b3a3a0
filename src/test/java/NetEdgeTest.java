import java.util.function.Supplier;

/** Each sentence of the part ==== 1 and of the promises 1 to 10 that names an edge: a test of its own. */
final class NetEdgeTest {
    private static final Check C = new Check("net edges");
    private static final Edge E = new Edge(C);
    private static final int BAD = ForceNet.BAD;

    public static void main(String[] args) {
        constants();
        newObject();
        netAsAtFirst();
        netRange();
        statesOfEveryNet();
        playersOfEveryNet();
        movesRange();
        movesLeadBack();
        movesMakeNothingDear();
        movesElsewhere();
        jointRange();
        jointOfNone();
        jointOfMost();
        jointNumbers();
        stepRange();
        stepAllPlaces();
        leadsRange();
        lettersRange();
        lettersOfEach();
        heapRange();
        heapOfFewStates();
        priceRange();
        priceOfEach();
        stepsRange();
        stepsBeyondJointMoves();
        stepsFromNothing();
        stepsOfAnotherLane();
        stepsBesideTheItems();
        stepsOfNoItems();
        stepsToNoState();
        stepsInOrder();
        the512thCall();
        C.end();
    }

    /** "BAD -1 .., NOT -2 .., FULL -3 .., NONE -4 .., SPENT -5 ..; NULL -11, CAST -12, INDEX -13, SIZE -14" */
    private static void constants() {
        C.due("BAD", ForceNet.BAD, -1);
        C.due("NOT", ForceNet.NOT, -2);
        C.due("FULL", ForceNet.FULL, -3);
        C.due("NONE", ForceNet.NONE, -4);
        C.due("SPENT", ForceNet.SPENT, -5);
        C.due("NULL", ForceNet.NULL, -11);
        C.due("CAST", ForceNet.CAST, -12);
        C.due("INDEX", ForceNet.INDEX, -13);
        C.due("SIZE", ForceNet.SIZE, -14);
    }

    /** "Four STATES, two PLAYERS; THE FORM is T", and all that the terms tell of "at first". */
    private static void newObject() {
        ForceNet x = new ForceNet();
        asAtFirst("1 a new object", x, 4, 2);
        C.due("1 THE TAPE is empty", x.form(), -20);
        for (int sheet = 0; sheet < 4; sheet++) {
            C.due("1 SHEETS hold nothing", x.drop(sheet), ForceNet.NULL);
        }
    }

    private static void asAtFirst(String name, ForceNet x, int states, int players) {
        C.due(name + ": STATES", x.count(0), states);
        C.due(name + ": PLAYERS", x.count(1), players);
        C.due(name + ": THE FORM is T", x.count(2), 1);
        C.due(name + ": THE FORM is T", x.holds(), (1 << states) - 1);
        C.due(name + ": PLANS", x.count(3), 1);
        C.due(name + ": no LOT", x.lot(-1), -1);
        C.due(name + ": no walk()", x.walked(0), BAD);
        for (int p = 0; p < players; p++) {
            C.due(name + ": no GOALS", x.goal(p, 0), 0);
        }
        for (int s = 0; s < states; s++) {
            C.due(name + ": leads to itself", x.leads(s, 0), s);
            C.due(name + ": no LETTERS", x.letters(s, 0), 0);
            C.due(name + ": NOT, as T is of no GROUP", x.plan(s), ForceNet.NOT);
            for (int p = 0; p < players; p++) {
                C.due(name + ": m is 1", x.joint(s, 1 << p), 1);
                C.due(name + ": the PRICE is 0", x.price(s, p, 0, 0), 0);
                C.due(name + ": 0 is CHOSEN", x.choose(p, s, 0), 0);
                C.due(name + ": its own HEAP", x.heap(p, s, s), s);
            }
        }
    }

    /** "S, P; all of it as at first, THE FORM is T, no LOT, no GOALS, no walk(): 1": for every S and P. */
    private static void netAsAtFirst() {
        for (int states = 2; states <= 12; states++) {
            for (int players = 1; players <= 4; players++) {
                ForceNet x = Made.rich();
                C.due("2 net", x.net(states, players), 1);
                asAtFirst("2 " + states + " STATES, " + players + " PLAYERS", x, states, players);
            }
        }
        // Nothing of a larger net comes back behind a smaller one.
        ForceNet x = full(12, 4);
        x.net(2, 1);
        x.net(12, 4);
        asAtFirst("2 behind a smaller one", x, 12, 4);
    }

    /** All STATES of a net changed in all ways. */
    private static ForceNet full(int states, int players) {
        ForceNet x = Made.plain(states, players);
        for (int s = 0; s < states; s++) {
            x.letters(s, 255);
            for (int p = 0; p < players; p++) {
                x.moves(s, p, 2);
                x.heap(p, s, 11 - s);
                x.goal(p, 1);
            }
            for (int p = 0; p < players; p++) {
                x.choose(p, s, 1);
                x.price(s, p, 0, 9);
            }
            x.step(s, 0, states - 1 - s);
        }
        return x;
    }

    /** "S 2 .. 12", "P 1 .. 4"; BAD changes nothing. */
    private static void netRange() {
        E.range("2 S", Made::rich, 2, 12, BAD, (x, s) -> x.net(s, 2));
        E.range("2 P", Made::rich, 1, 4, BAD, (x, p) -> x.net(3, p));
    }

    /** "STATES 0 .. S - 1": by every S, for each call that takes one. */
    private static void statesOfEveryNet() {
        Edge.Call[] calls = {(x, s) -> x.moves(s, 0, 1), (x, s) -> x.joint(s, 0), (x, s) -> x.step(s, 0, 0), (x, s) -> x.step(0, 0, s),
            (x, s) -> x.leads(s, 0), (x, s) -> x.letters(s, 0), (x, s) -> x.heap(0, s, 0), (x, s) -> x.price(s, 0, 0, 0),
            (x, s) -> x.steps(s, 0, 0, 0, 0), (x, s) -> x.force(s, 0, 0), (x, s) -> x.round(s), (x, s) -> x.plan(s), (x, s) -> x.answer(s, 0),
            (x, s) -> x.toll(s), (x, s) -> x.walk(s, 0, 0, 0, 0), (x, s) -> x.blind(s), (x, s) -> x.blindMove(s, 0, 0), (x, s) -> x.choose(0, s, 0),
            (x, s) -> x.chance(s, 0), (x, s) -> x.content(s), (x, s) -> x.stable(s), (x, s) -> x.settle(s), (x, s) -> x.helpers(s)};
        for (int states = 2; states <= 12; states++) {
            for (int k = 0; k < calls.length; k++) {
                ForceNet x = Made.plain(states, 1, "<0>FT");
                x.sheet(0, 0, 0);
                C.due("1 the last of " + states + " STATES, call " + k, calls[k].on(x, states - 1) == BAD ? 0 : 1, 1);
                C.due("1 one beyond " + states + " STATES, call " + k, calls[k].on(x, states), BAD);
            }
        }
    }

    /** "PLAYERS 0 .. P - 1": by every P, for each call that takes one, or some. */
    private static void playersOfEveryNet() {
        Edge.Call[] calls = {(x, p) -> x.moves(0, p, 1), (x, p) -> x.joint(0, 1 << p), (x, p) -> x.heap(p, 0, 0), (x, p) -> x.price(0, p, 0, 0),
            (x, p) -> x.force(0, 1 << p, 0), (x, p) -> x.blindMove(0, p, 0), (x, p) -> x.choose(p, 0, 0), (x, p) -> x.goal(p, 0)};
        for (int players = 1; players <= 4; players++) {
            for (int k = 0; k < calls.length; k++) {
                ForceNet x = Made.plain(2, players, "<" + "0123".substring(0, players) + ">FT");
                C.due("1 the last of " + players + " PLAYERS, call " + k, calls[k].on(x, players - 1) == BAD ? 0 : 1, 1);
                C.due("1 one beyond " + players + " PLAYERS, call " + k, calls[k].on(x, players), BAD);
            }
        }
    }

    /** "m 1 .. 3"; BAD: no such STATE, no such PLAYER, no such m. */
    private static void movesRange() {
        E.range("3 STATE", Made::rich, 0, 2, BAD, (x, s) -> x.moves(s, 0, 1));
        E.range("3 PLAYER", Made::rich, 0, 1, BAD, (x, p) -> x.moves(0, p, 1));
        E.range("3 m", Made::rich, 1, 3, BAD, (x, m) -> x.moves(0, 0, m));
        ForceNet x = new ForceNet();
        int was = 1;
        for (int m : new int[] {3, 1, 2, 2, 3, 3, 1, 1}) {
            C.due("3 m: what it was", x.moves(3, 1, m), was);
            C.due("3 m: so many from now on", x.joint(3, 2), m);
            was = m;
        }
    }

    /** "all JOINT MOVES there lead back to it": to the last of 81, by the same m, too. */
    private static void movesLeadBack() {
        for (int m = 1; m <= 3; m++) {
            ForceNet x = widest(11);
            for (int j = 0; j < 81; j++) {
                x.step(11, j, j % 11);
            }
            x.moves(11, 2, m);
            int all = x.joint(11, 15);
            C.due("3 JOINT MOVES by m " + m, all, 27 * m);
            for (int j = 0; j < all; j++) {
                C.due("3 JOINT MOVE " + j + " leads back by m " + m, x.leads(11, j), 11);
            }
            x.moves(11, 2, 3);
            for (int j = 0; j < 81; j++) {
                C.due("3 JOINT MOVE " + j + " leads back by m 3 again", x.leads(11, j), 11);
            }
        }
    }

    /** Twelve STATES, four PLAYERS, in one STATE three MOVES of each. */
    private static ForceNet widest(int state) {
        ForceNet x = Made.plain(12, 4);
        for (int p = 0; p < 4; p++) {
            x.moves(state, p, 3);
        }
        return x;
    }

    /** "PRICES and what is CHOSEN there are 0 for all PLAYERS": of the least and of the last, of every MOVE. */
    private static void movesMakeNothingDear() {
        for (int changed = 0; changed < 4; changed++) {
            ForceNet x = widest(11);
            for (int p = 0; p < 4; p++) {
                x.choose(p, 11, 2);
                for (int move = 0; move < 3; move++) {
                    x.price(11, p, move, 9);
                }
            }
            x.moves(11, changed, 3);
            for (int p = 0; p < 4; p++) {
                C.due("3 CHOSEN of " + p + " by moves() of " + changed, x.choose(p, 11, 0), 0);
                for (int move = 0; move < 3; move++) {
                    C.due("3 PRICE of " + p + " by moves() of " + changed, x.price(11, p, move, 0), 0);
                }
            }
        }
    }

    /** "there": the STATES beside it stay as they are; so do LETTERS, HEAPS, GOALS and m of others in the STATE. */
    private static void movesElsewhere() {
        for (int state = 0; state < 12; state++) {
            ForceNet x = full(12, 4);
            C.due("3 what it was in " + state, x.moves(state, 3, 1), 2);
            for (int s = 0; s < 12; s++) {
                boolean there = s == state;
                C.due("3 LETTERS stay in " + s, x.letters(s, 0), 255);
                C.due("3 leads in " + s, x.leads(s, 0), there ? s : 11 - s);
                for (int p = 0; p < 4; p++) {
                    C.due("3 HEAPS stay in " + s, x.heap(p, s, 0), 11 - s);
                    C.due("3 CHOSEN in " + s, x.choose(p, s, 0), there ? 0 : 1);
                    C.due("3 PRICE in " + s, x.price(s, p, 0, 0), there ? 0 : 9);
                }
            }
            C.due("3 m of others", x.joint(state, 15), 8);
            C.due("3 m elsewhere", x.joint((state + 1) % 12, 15), 16);
            C.due("3 GOALS stay", x.goal(3, 0), 1);
        }
    }

    /** A GROUP is bits of PLAYERS; BAD: no such STATE, no such GROUP. */
    private static void jointRange() {
        E.range("4 STATE", Made::rich, 0, 2, BAD, (x, s) -> x.joint(s, 3));
        E.range("4 GROUP", Made::rich, 0, 3, BAD, (x, g) -> x.joint(0, g));
        E.range("4 GROUP of four", () -> Made.plain(2, 4), 0, 15, BAD, (x, g) -> x.joint(0, g));
        E.range("4 GROUP of one", () -> Made.plain(2, 1), 0, 1, BAD, (x, g) -> x.joint(0, g));
    }

    /** "(of none: 1)" */
    private static void jointOfNone() {
        C.due("4 of none, m 1", Made.plain(2, 1).joint(1, 0), 1);
        C.due("4 of none, m 3", widest(11).joint(11, 0), 1);
    }

    /** The most: 3 by 3 by 3 by 3. */
    private static void jointOfMost() {
        ForceNet x = widest(11);
        int[] due = {1, 3, 9, 27, 81};
        for (int group = 0; group < 16; group++) {
            C.due("4 of GROUP " + group, x.joint(11, group), due[Integer.bitCount(group)]);
            C.due("4 of GROUP " + group + " elsewhere", x.joint(10, group), 1);
        }
    }

    /** "as a number of which the MOVES are the digits, that of the least PLAYER the highest, each by its m" */
    private static void jointNumbers() {
        int[] m = {2, 3, 1, 3};
        ForceNet x = Made.plain(3, 4);
        for (int p = 0; p < 4; p++) {
            x.moves(1, p, m[p]);
        }
        x.goal(0, 1);
        for (int number = 0; number < 18; number++) {
            x.step(1, number, 0);
            x.choose(0, 1, number / 9);
            x.choose(1, 1, number / 3 % 3);
            x.choose(3, 1, number % 3);
            C.due("1 its NUMBER " + number, x.content(1), 1);
            x.step(1, number, 1);
            C.due("1 no other NUMBER than " + number, x.content(1), 0);
        }
    }

    /** BAD: no such STATE, no such JOINT MOVE of all, no STATE to which it could lead. */
    private static void stepRange() {
        E.range("5 STATE", Made::rich, 0, 2, BAD, (x, s) -> x.step(s, 0, 1));
        E.range("5 JOINT MOVE", Made::rich, 0, 5, BAD, (x, j) -> x.step(0, j, 1));
        E.range("5 JOINT MOVE elsewhere", Made::rich, 0, 2, BAD, (x, j) -> x.step(1, j, 1));
        E.range("5 to", Made::rich, 0, 2, BAD, (x, to) -> x.step(0, 0, to));
        E.range("5 81 JOINT MOVES", () -> small81(), 0, 80, BAD, (x, j) -> x.step(1, j, 0));
    }

    private static ForceNet small81() {
        ForceNet x = Made.plain(2, 4);
        for (int p = 0; p < 4; p++) {
            x.moves(1, p, 3);
        }
        return x;
    }

    /** "where it led": each of the 81 in the first and in the last STATE is its own. */
    private static void stepAllPlaces() {
        for (int state : new int[] {0, 11}) {
            ForceNet x = widest(state);
            for (int j = 0; j < 81; j++) {
                C.due("5 led to itself " + j, x.step(state, j, j % 12), state);
            }
            for (int j = 0; j < 81; j++) {
                C.due("6 leads " + j, x.leads(state, j), j % 12);
            }
            for (int j = 0; j < 81; j++) {
                C.due("5 where it led " + j, x.step(state, j, 11 - state), j % 12);
            }
            C.due("5 the STATE beside it stays", x.leads(state == 0 ? 1 : 10, 0), state == 0 ? 1 : 10);
        }
        ForceNet x = new ForceNet();
        C.due("5 to itself", x.step(2, 0, 2), 2);
        C.due("6 to itself", x.leads(2, 0), 2);
    }

    private static void leadsRange() {
        E.range("6 STATE", Made::rich, 0, 2, BAD, (x, s) -> x.leads(s, 0));
        E.range("6 JOINT MOVE", Made::rich, 0, 5, BAD, (x, j) -> x.leads(0, j));
        E.range("6 JOINT MOVE elsewhere", Made::rich, 0, 1, BAD, (x, j) -> x.leads(2, j));
        E.range("6 81 JOINT MOVES", () -> small81(), 0, 80, BAD, (x, j) -> x.leads(1, j));
    }

    /** "LETTERS a .. h (bits; none at first)" */
    private static void lettersRange() {
        E.range("7 STATE", Made::rich, 0, 2, BAD, (x, s) -> x.letters(s, 1));
        E.range("7 bits", Made::rich, 0, 255, BAD, (x, bits) -> x.letters(0, bits));
    }

    /** All bits of all STATES are kept, each its own. */
    private static void lettersOfEach() {
        ForceNet x = Made.plain(12, 1);
        for (int s = 0; s < 12; s++) {
            C.due("7 none at first", x.letters(s, 255 - s * 17), 0);
        }
        for (int s = 0; s < 12; s++) {
            C.due("7 what they were", x.letters(s, 1), 255 - s * 17);
            C.due("7 none any more", x.letters(s, 0), 1);
        }
    }

    /** "HEAPS 0 .. 11" */
    private static void heapRange() {
        E.range("8 PLAYER", Made::rich, 0, 1, BAD, (x, p) -> x.heap(p, 0, 1));
        E.range("8 STATE", Made::rich, 0, 2, BAD, (x, s) -> x.heap(0, s, 1));
        E.range("8 HEAP", Made::rich, 0, 11, BAD, (x, h) -> x.heap(0, 0, h));
    }

    /** There are twelve HEAPS in a net of two STATES, too; each PLAYER sees its own. */
    private static void heapOfFewStates() {
        ForceNet x = Made.plain(2, 4);
        for (int p = 0; p < 4; p++) {
            C.due("8 its own at first", x.heap(p, 1, 11 - p), 1);
        }
        for (int p = 0; p < 4; p++) {
            C.due("8 of each PLAYER its own", x.heap(p, 1, 0), 11 - p);
            C.due("8 of the STATE beside it", x.heap(p, 0, 11), 0);
        }
    }

    /** "a PRICE (0 .. 9)"; BAD: also no such MOVE there. */
    private static void priceRange() {
        E.range("9 STATE", Made::rich, 0, 2, BAD, (x, s) -> x.price(s, 0, 0, 1));
        E.range("9 PLAYER", Made::rich, 0, 1, BAD, (x, p) -> x.price(0, p, 0, 1));
        E.range("9 MOVE of two", Made::rich, 0, 1, BAD, (x, move) -> x.price(0, 0, move, 1));
        E.range("9 MOVE of three", Made::rich, 0, 2, BAD, (x, move) -> x.price(0, 1, move, 1));
        E.range("9 MOVE of one", Made::rich, 0, 0, BAD, (x, move) -> x.price(1, 1, move, 1));
        E.range("9 PRICE", Made::rich, 0, 9, BAD, (x, cost) -> x.price(0, 0, 0, cost));
    }

    /** Each of all PRICES is its own. */
    private static void priceOfEach() {
        ForceNet x = Made.plain(12, 4);
        int[][] places = {{0, 0, 0}, {0, 0, 2}, {0, 3, 0}, {0, 3, 2}, {11, 0, 0}, {11, 0, 2}, {11, 3, 0}, {11, 3, 2}, {5, 2, 1}};
        for (int[] at : places) {
            x.moves(at[0], at[1], 3);
        }
        for (int k = 0; k < places.length; k++) {
            C.due("9 0 at first", x.price(places[k][0], places[k][1], places[k][2], k + 1), 0);
        }
        for (int k = 0; k < places.length; k++) {
            C.due("9 what it was", x.price(places[k][0], places[k][1], places[k][2], 0), k + 1);
        }
    }

    /** BAD: no such STATE, SHEET, LANE; "n items (0 .. 81)". */
    private static void stepsRange() {
        E.range("10 STATE", Made::rich, 0, 2, BAD, (x, s) -> x.steps(s, 0, 0, 0, 1));
        E.range("10 SHEET", Made::rich, 0, 3, BAD, (x, sheet) -> x.steps(0, sheet, 0, 0, 1));
        E.range("10 LANE", Made::rich, 0, 2, BAD, (x, lane) -> x.steps(0, 0, lane, 0, 1));
        E.range("10 n", NetEdgeTest::small81WithSheet, 0, 81, BAD, (x, n) -> x.steps(1, 0, 0, 0, n));
    }

    private static ForceNet small81WithSheet() {
        ForceNet x = small81();
        x.sheet(0, 0, 3);
        return x;
    }

    /** "BAD: also n beyond how many there are" JOINT MOVES, and so for each number of them. */
    private static void stepsBeyondJointMoves() {
        E.range("10 n of six", Made::rich, 0, 6, BAD, (x, n) -> x.steps(0, 0, 0, 0, n));
        E.range("10 n of three", Made::rich, 0, 3, BAD, (x, n) -> x.steps(1, 0, 0, 0, n));
        E.refused("10 n beyond ahead of NULL", Made::rich, BAD, (x, n) -> x.steps(0, 2, 0, 0, 7));
        E.refused("10 n beyond ahead of CAST", Made::rich, BAD, (x, n) -> x.steps(0, 0, 1, 0, 7));
        E.refused("10 n beyond ahead of INDEX", Made::rich, BAD, (x, n) -> x.steps(0, 0, 0, -1, 7));
    }

    /** "NULL": the SHEET holds nothing, even if no item is asked for. */
    private static void stepsFromNothing() {
        E.refused("10 NULL", Made::rich, ForceNet.NULL, (x, n) -> x.steps(0, 2, 0, 0, 1));
        E.refused("10 NULL of no items", Made::rich, ForceNet.NULL, (x, n) -> x.steps(0, 2, 0, 0, 0));
        E.refused("10 NULL ahead of INDEX", Made::rich, ForceNet.NULL, (x, n) -> x.steps(0, 2, 0, -1, 1));
    }

    /** "CAST": each LANE taken as each other one. */
    private static void stepsOfAnotherLane() {
        for (int lane = 0; lane < 3; lane++) {
            for (int as = 0; as < 3; as++) {
                int of = lane;
                int taken = as;
                E.refused("10 LANE " + lane + " as " + as, () -> ofLane(of), lane == as ? 0 : ForceNet.CAST, (x, n) -> x.steps(0, 2, taken, 0, 0));
            }
        }
        E.refused("10 CAST ahead of INDEX", Made::rich, ForceNet.CAST, (x, n) -> x.steps(0, 0, 1, 6, 1));
        E.refused("10 CAST ahead of NOT", Made::rich, ForceNet.CAST, (x, n) -> x.steps(0, 0, 2, 3, 1));
    }

    private static ForceNet ofLane(int lane) {
        ForceNet x = Made.rich();
        x.sheet(2, lane, 1);
        return x;
    }

    /** "INDEX": below the first item, beyond the last one, and where i and n together are no int. */
    private static void stepsBesideTheItems() {
        E.range("10 i of five, n 1", Made::rich, 0, 4, ForceNet.INDEX, (x, i) -> x.steps(0, 0, 0, i, 1));
        E.range("10 i of five, n 5", Made::rich, 0, 0, ForceNet.INDEX, (x, i) -> x.steps(0, 0, 0, i, 5));
        E.range("10 i of five, n 6", Made::rich, 0, -1, ForceNet.INDEX, (x, i) -> x.steps(0, 0, 0, i, 6));
        E.refused("10 INDEX in an empty row", Made::rich, ForceNet.INDEX, (x, n) -> x.steps(0, 3, 2, 0, 1));
        E.refused("10 INDEX ahead of NOT", Made::rich, ForceNet.INDEX, (x, n) -> x.steps(0, 0, 0, 3, 3));
    }

    /** n 0: at the end of the items it goes, beyond it doesn't. */
    private static void stepsOfNoItems() {
        E.range("10 i, n 0", Made::rich, 0, 5, ForceNet.INDEX, (x, i) -> x.steps(0, 0, 0, i, 0));
        E.range("10 i in an empty row, n 0", Made::rich, 0, 0, ForceNet.INDEX, (x, i) -> x.steps(0, 3, 2, i, 0));
        E.refused("10 no items change nothing", Made::rich, 0, (x, n) -> x.steps(0, 0, 0, 0, 0));
    }

    /** "NOT: one is no STATE": whichever it is, none of the others lead on then. */
    private static void stepsToNoState() {
        for (int lane = 0; lane < 3; lane++) {
            for (int item : Edge.beside(0, 2)) {
                // A byte keeps the lowest eight bits alone, with their sign.
                int kept = lane == 0 ? (byte) item : item;
                for (int place = 0; place < 3; place++) {
                    ForceNet x = Made.plain(3, 2);
                    x.moves(0, 0, 3);
                    Made.fill(x, 0, lane, 1, 1, 1);
                    x.item(0, lane, place, item);
                    boolean isState = kept >= 0 && kept < 3;
                    C.due("10 item " + item + " of LANE " + lane + " at " + place, x.steps(0, 0, lane, 0, 3), isState ? 3 : ForceNet.NOT);
                    for (int j = 0; j < 3; j++) {
                        C.due("10 leads by " + item, x.leads(0, j), !isState ? 0 : j == place ? kept : 1);
                    }
                }
            }
        }
        E.refused("10 NOT changes nothing", Made::rich, ForceNet.NOT, (x, n) -> x.steps(0, 0, 0, 0, 5));
        // The STATE that a larger net has is none of a smaller one; items beside those that are taken don't count.
        Supplier<ForceNet> made = () -> Made.plain(2, 2);
        ForceNet x = made.get();
        Made.fill(x, 0, 1, 1, 2);
        C.due("10 STATE 2 of two", x.steps(0, 0, 1, 1, 1), ForceNet.NOT);
        C.due("10 STATE 1 of two", x.steps(0, 0, 1, 0, 1), 1);
        C.due("10 it leads there", x.leads(0, 0), 1);
    }

    /** "n items .. from one on are where JOINT MOVES 0, 1, .. lead": the first n of them, no more. */
    private static void stepsInOrder() {
        ForceNet x = widest(11);
        x.sheet(3, 1, 81);
        for (int i = 0; i < 81; i++) {
            x.item(3, 1, i, (i * 5 + 3) % 12);
        }
        C.due("10 all 81", x.steps(11, 3, 1, 0, 81), 81);
        for (int j = 0; j < 81; j++) {
            C.due("10 JOINT MOVE " + j, x.leads(11, j), (j * 5 + 3) % 12);
        }
        C.due("10 the last item alone", x.steps(11, 3, 1, 80, 1), 1);
        C.due("10 JOINT MOVE 0 by item 80", x.leads(11, 0), (80 * 5 + 3) % 12);
        C.due("10 JOINT MOVE 1 as it was", x.leads(11, 1), 8);
    }

    /** "An object is used for at most 512 calls": the 512th answers as the others do. */
    private static void the512thCall() {
        ForceNet x = new ForceNet();
        for (int call = 1; call <= 511; call++) {
            C.due("5 call " + call, x.step(3, 0, call % 4), call == 1 ? 3 : (call - 1) % 4);
        }
        C.due("6 call 512", x.leads(3, 0), 3);
        ForceNet y = new ForceNet();
        for (int call = 1; call <= 511; call++) {
            C.due("11 call " + call, call % 2 == 1 ? y.type('a', 1) : y.form(), 1);
        }
        C.due("12 call 512", y.form(), 1);
    }
}
