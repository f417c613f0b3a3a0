/** Each sentence of the part ==== 4 and of the promises 22 and 23 that names an edge: a test of its own. */
final class BlindEdgeTest {
    private static final Check C = new Check("blind edges");
    private static final Edge E = new Edge(C);
    private static final int BAD = ForceNet.BAD, NOT = ForceNet.NOT, NONE = ForceNet.NONE, SPENT = ForceNet.SPENT;
    private static final String[] OF_NO_GROUP = {"T", "a", "!<0>FT", "(<0>FT&<0>FT)", "(<0>FT|a)"};

    public static void main(String[] args) {
        blindRange();
        blindOfNoGroup();
        blindNothingAndAll();
        moveRange();
        moveOfNoGroup();
        moveOfAnotherPlayer();
        moveOfAnEmptyHeap();
        moveNone();
        moveSpent();
        rowsSpent();
        rowsBeyondAnyInt();
        rowsOfTheGroupAlone();
        rowOfNobody();
        rowOfSeveral();
        rowsOfOneHeap();
        rowsToTheLast();
        leastM();
        theSameInAllItsStates();
        fitOfTheGroupAlone();
        fitOfSomePlayer();
        fitNoFurther();
        eachStepOfNext();
        alwaysAndTheStateItself();
        atLastAndTheStateItself();
        untilAndAheadOfIt();
        againForEver();
        partsWithinHold();
        firstRowByHeaps();
        firstRowByPlayers();
        C.end();
    }

    private static void blindRange() {
        E.range("22 STATE", Made::rich, 0, 2, BAD, (x, s) -> x.blind(s));
        E.range("22 STATE, NOT", () -> Made.rich("T"), 0, 2, BAD, (x, s) -> x.blind(s));
        E.range("22 STATE, SPENT", () -> rows(5184), 0, 11, BAD, (x, s) -> x.blind(s));
    }

    /** "NOT: the OUTERMOST is of no GROUP" */
    private static void blindOfNoGroup() {
        for (String text : OF_NO_GROUP) {
            E.refused("22 NOT " + text, () -> Made.rich(text), NOT, (x, n) -> x.blind(0));
        }
    }

    /** "1, 0": of all STATES some row does, of none no row does. */
    private static void blindNothingAndAll() {
        for (String law : new String[] {"X", "G", "F", "I"}) {
            E.refused("22 all by " + law, () -> Made.rich("<01>" + law + "T"), 1, (x, n) -> x.blind(0));
            E.refused("22 nothing by " + law, () -> Made.rich("<01>" + law + "!T"), 0, (x, n) -> x.blind(0));
        }
        E.refused("22 all by U", () -> Made.rich("<01>(!TUT)"), 1, (x, n) -> x.blind(0));
        E.refused("22 nothing by U", () -> Made.rich("<01>(TU!T)"), 0, (x, n) -> x.blind(0));
    }

    /** The first "BAD" of blindMove(): no such STATE, PLAYER, HEAP; of a FORM of no GROUP, so that all else is NOT. */
    private static void moveRange() {
        E.range("23 STATE", () -> Made.rich("T"), 0, 2, BAD, (x, s) -> x.blindMove(s, 0, 0));
        E.range("23 PLAYER", () -> Made.rich("T"), 0, 1, BAD, (x, p) -> x.blindMove(0, p, 0));
        E.range("23 HEAP", () -> Made.rich("T"), 0, 11, BAD, (x, h) -> x.blindMove(0, 0, h));
        E.range("23 STATE of a GROUP", Made::rich, 0, 2, BAD, (x, s) -> x.blindMove(s, 0, 0));
        E.range("23 PLAYER of a GROUP", () -> Made.rich("<01>FT"), 0, 1, BAD, (x, p) -> x.blindMove(0, p, 0));
    }

    /** "NOT", ahead of the second BAD. */
    private static void moveOfNoGroup() {
        for (String text : OF_NO_GROUP) {
            E.refused("23 NOT " + text, () -> Made.rich(text), NOT, (x, n) -> x.blindMove(0, 0, 0));
            E.refused("23 NOT ahead of no STATE in that HEAP " + text, () -> Made.rich(text), NOT, (x, n) -> x.blindMove(0, 0, 10));
        }
    }

    /** "BAD: the PLAYER is not of the GROUP": by each GROUP. */
    private static void moveOfAnotherPlayer() {
        for (int group = 0; group < 16; group++) {
            StringBuilder text = new StringBuilder("<");
            for (int p = 0; p < 4; p++) {
                text.append((group >> p & 1) != 0 ? String.valueOf(p) : "");
            }
            ForceNet x = Made.plain(2, 4, text.append(">FT").toString());
            for (int p = 0; p < 4; p++) {
                C.due("23 PLAYER " + p + " by " + text, x.blindMove(0, p, 0), (group >> p & 1) != 0 ? 0 : BAD);
            }
        }
    }

    /** "BAD: the PLAYER .. has no STATE in that HEAP": by the HEAPS of that PLAYER. */
    private static void moveOfAnEmptyHeap() {
        ForceNet x = Made.plain(3, 2, "<01>FT");
        x.heap(0, 0, 11);
        x.heap(0, 1, 11);
        x.heap(1, 2, 5);
        for (int h = 0; h < 12; h++) {
            C.due("23 HEAP " + h + " of PLAYER 0", x.blindMove(0, 0, h), h == 2 || h == 11 ? 0 : BAD);
            C.due("23 HEAP " + h + " of PLAYER 1", x.blindMove(0, 1, h), h == 0 || h == 1 || h == 5 ? 0 : BAD);
        }
        C.due("23 BAD ahead of NONE", Check.read(x, "<0>F!T"), 3);
        C.due("23 BAD ahead of NONE", x.blindMove(0, 0, 1), BAD);
        C.due("23 NONE", x.blindMove(0, 0, 2), NONE);
    }

    /** "NONE: no row does" */
    private static void moveNone() {
        for (String law : new String[] {"<0>X!T", "<0>G!T", "<0>F!T", "<0>I!T", "<0>(TU!T)"}) {
            E.refused("23 NONE " + law, () -> Made.rich(law), NONE, (x, n) -> x.blindMove(0, 0, 0));
        }
    }

    /** "BAD ..; SPENT; NONE": in this order. */
    private static void moveSpent() {
        E.refused("23 SPENT", () -> small("<0123>FT"), SPENT, (x, n) -> x.blindMove(0, 0, 0));
        E.refused("23 SPENT ahead of NONE", () -> small("<0123>F!T"), SPENT, (x, n) -> x.blindMove(0, 0, 0));
        E.refused("23 BAD PLAYER ahead of SPENT", () -> small("<012>FT"), BAD, (x, n) -> x.blindMove(0, 3, 0));
        E.refused("23 BAD HEAP ahead of SPENT", () -> small("<0123>FT"), BAD, (x, n) -> x.blindMove(0, 0, 3));
        E.refused("22 SPENT", () -> small("<0123>FT"), SPENT, (x, n) -> x.blind(0));
        E.refused("22 SPENT where no row does", () -> small("<0123>F!T"), SPENT, (x, n) -> x.blind(0));
    }

    /** Three STATES, four PLAYERS, three MOVES of each but the last: 19683 rows. */
    private static ForceNet small(String text) {
        ForceNet x = Made.plain(3, 4);
        for (int s = 0; s < 3; s++) {
            for (int p = 0; p < 3; p++) {
                x.moves(s, p, 3);
            }
        }
        Check.read(x, text);
        return x;
    }

    /** A net of twelve STATES in which one PLAYER has so many rows, by twos and threes; THE FORM is <0>Fa, a in 11. */
    private static ForceNet rows(int all) {
        ForceNet x = Made.plain(12, 1, "<0>Fa");
        int left = all;
        for (int s = 0; s < 12; s++) {
            int m = left % 3 == 0 ? 3 : left % 2 == 0 ? 2 : 1;
            x.moves(s, 0, m);
            left /= m;
        }
        x.letters(11, 1);
        return x;
    }

    /** "SPENT: more than 5000 rows": products of twos and threes are 4608 at most below it, 5184 at least above it. */
    private static void rowsSpent() {
        for (int all : new int[] {1, 2, 3, 4, 2187, 3888, 4096, 4374, 4608}) {
            ForceNet x = rows(all);
            C.due("22 " + all + " rows", x.blind(0), 0);
            C.due("22 " + all + " rows, one does", x.blind(11), 1);
            C.due("23 " + all + " rows", x.blindMove(0, 0, 11), NONE);
            C.due("23 " + all + " rows, one does", x.blindMove(11, 0, 11), 0);
        }
        for (int all : new int[] {5184, 5832, 6144, 6561, 6912, 531441}) {
            ForceNet x = rows(all);
            C.due("22 " + all + " rows", x.blind(0), SPENT);
            C.due("22 " + all + " rows, the first would do", x.blind(11), SPENT);
            C.due("23 " + all + " rows", x.blindMove(0, 0, 11), SPENT);
            C.due("23 " + all + " rows, the first would do", x.blindMove(11, 0, 11), SPENT);
        }
    }

    /** 2 to the 13th, .. to the 48th: no product that comes round to few by the bits that an int, or a long, has. */
    private static void rowsBeyondAnyInt() {
        for (int m = 2; m <= 3; m++) {
            ForceNet x = Made.plain(12, 4, "<0123>FT");
            int cells = 0;
            for (int s = 0; s < 12; s++) {
                for (int p = 0; p < 4; p++) {
                    x.moves(s, p, m);
                    cells++;
                    boolean spent = cells > (m == 2 ? 12 : 7);
                    C.due("22 " + m + " to the " + cells, x.blind(s), spent ? SPENT : 1);
                }
            }
        }
    }

    /** The rows are those of the GROUP: others' MOVES don't count. */
    private static void rowsOfTheGroupAlone() {
        ForceNet x = Made.plain(12, 2, "<0>FT");
        for (int s = 0; s < 12; s++) {
            x.moves(s, 0, 2);
            x.moves(s, 1, 3);
        }
        C.due("22 4096 rows of PLAYER 0", x.blind(0), 1);
        Check.read(x, "<1>FT");
        C.due("22 531441 rows of PLAYER 1", x.blind(0), SPENT);
        Check.read(x, "<01>FT");
        C.due("22 the rows of both", x.blind(0), SPENT);
        Check.read(x, "<>FT");
        C.due("22 one row of nobody", x.blind(0), 1);
    }

    /** A GROUP of none has one row, and it does or doesn't, in each STATE. */
    private static void rowOfNobody() {
        for (String law : new String[] {"<>Xa", "<>Ga", "<>Fa", "<>Ia", "<>(bUa)"}) {
            for (int lost = 0; lost < 12; lost++) {
                ForceNet x = Made.plain(12, 2);
                for (int s = 0; s < 12; s++) {
                    x.letters(s, s == lost ? 0 : 1);
                }
                Check.read(x, law);
                for (int s = 0; s < 12; s++) {
                    C.due("22 nobody by " + law + " in " + s, x.blind(s), s == lost ? 0 : 1);
                }
            }
        }
    }

    /** The MOVES of a GROUP make its JOINT MOVE, in each STATE by the m there. */
    private static void rowOfSeveral() {
        for (int state = 0; state < 12; state++) {
            for (int mine = 0; mine < 6; mine++) {
                ForceNet x = Made.plain(12, 4);
                x.moves(state, 0, 3);
                x.moves(state, 1, 2);
                x.moves(state, 2, 2);
                x.moves(state, 3, 3);
                int to = (state + 1) % 12;
                x.letters(to, 1);
                // PLAYERS 1 and 3 are the GROUP; whatever 0 and 2 do, it leads there.
                for (int theirs = 0; theirs < 6; theirs++) {
                    x.step(state, theirs / 2 * 12 + mine / 3 * 6 + theirs % 2 * 3 + mine % 3, to);
                }
                Check.read(x, "<13>Xa");
                C.due("22 JOINT MOVE " + mine + " in " + state, x.blind(state), 1);
                C.due("23 of PLAYER 1 by " + mine + " in " + state, x.blindMove(state, 1, state), mine / 3);
                C.due("23 of PLAYER 3 by " + mine + " in " + state, x.blindMove(state, 3, state), mine % 3);
            }
        }
    }

    /** A HEAP has but one MOVE: the rows are by HEAPS, not by STATES. */
    private static void rowsOfOneHeap() {
        ForceNet x = Made.plain(12, 1, "<0>FT");
        for (int s = 0; s < 12; s++) {
            x.moves(s, 0, 3);
        }
        C.due("22 531441 rows", x.blind(0), SPENT);
        for (int s = 0; s < 12; s++) {
            x.heap(0, s, s % 8);
        }
        C.due("22 6561 rows", x.blind(0), SPENT);
        x.heap(0, 7, 11);
        C.due("22 6561 rows by other HEAPS", x.blind(0), SPENT);
        x.heap(0, 7, 0);
        C.due("22 2187 rows", x.blind(0), 1);
        for (int s = 0; s < 12; s++) {
            x.heap(0, s, 11);
        }
        C.due("22 3 rows", x.blind(0), 1);
    }

    /** All of 4608 rows are gone through: the last alone does. */
    private static void rowsToTheLast() {
        // 4608 = 3 * 3 * 2 ^ 9: in 0 .. 10 the last MOVE leads on, any other stays.
        ForceNet x = Made.plain(12, 1);
        for (int s = 0; s < 11; s++) {
            int m = s < 2 ? 3 : 2;
            x.moves(s, 0, m);
            x.step(s, m - 1, s + 1);
        }
        x.letters(11, 1);
        Check.read(x, "<0>Fa");
        C.due("22 the last of 4608", x.blind(0), 1);
        for (int s = 0; s < 11; s++) {
            C.due("23 the last of 4608, HEAP " + s, x.blindMove(0, 0, s), s < 2 ? 2 : 1);
        }
        C.due("23 the first MOVE in HEAP 11", x.blindMove(0, 0, 11), 0);
    }

    /** "(below the least m of these)": whichever of the STATES has it. */
    private static void leastM() {
        for (int first = 1; first <= 3; first++) {
            for (int second = 1; second <= 3; second++) {
                for (int move = 0; move < 3; move++) {
                    // In 0 and 1, one HEAP, MOVE 0, 1 or 2 leads to 2.
                    ForceNet x = Made.plain(4, 1);
                    x.heap(0, 1, 0);
                    x.moves(0, 0, first);
                    x.moves(1, 0, second);
                    x.step(0, Math.min(move, first - 1), 2);
                    x.step(1, Math.min(move, second - 1), 2);
                    x.letters(2, 1);
                    Check.read(x, "<0>Xa");
                    boolean can = Math.min(move, first - 1) == Math.min(move, second - 1);
                    C.due("22 m " + first + " and " + second + ", MOVE " + move, x.blind(0), can ? 1 : 0);
                    C.due("23 m " + first + " and " + second + ", MOVE " + move, x.blindMove(0, 0, 0), can ? Math.min(move, first - 1) : NONE);
                }
            }
        }
    }

    /** "the same in all its STATES": two STATES that need unlike MOVES, one behind the other. */
    private static void theSameInAllItsStates() {
        ForceNet x = Made.plain(4, 1);
        x.moves(0, 0, 2);
        x.moves(1, 0, 2);
        x.step(0, 0, 1);
        x.step(0, 1, 3);
        x.step(1, 0, 3);
        x.step(1, 1, 2);
        x.letters(2, 1);
        Check.read(x, "<0>Fa");
        C.due("22 in two HEAPS", x.blind(0), 1);
        C.due("23 in two HEAPS", x.blindMove(0, 0, 0) * 10 + x.blindMove(0, 0, 1), 1);
        x.heap(0, 1, 0);
        C.due("22 in one HEAP", x.blind(0), 0);
        C.due("13 it holds, by one who sees", x.holds(), 7);
    }

    /** "FIT: the STATE, and all that some PLAYER of the GROUP has in one HEAP with it": nobody else's HEAPS count. */
    private static void fitOfTheGroupAlone() {
        for (int seeing = 0; seeing < 4; seeing++) {
            ForceNet x = Made.plain(3, 4);
            x.letters(0, 1);
            x.heap(seeing, 2, 0);
            for (int p = 0; p < 4; p++) {
                Check.read(x, "<" + p + ">Ga");
                C.due("22 GROUP of " + p + ", HEAP of " + seeing, x.blind(0), p == seeing ? 0 : 1);
            }
            Check.read(x, "<>Ga");
            C.due("22 GROUP of none, HEAP of " + seeing, x.blind(0), 1);
            Check.read(x, "<0123>Ga");
            C.due("22 GROUP of all, HEAP of " + seeing, x.blind(0), 0);
            C.due("22 the lost one", x.blind(2), 0);
        }
    }

    /** "some PLAYER": one of them is enough, be it the last STATE that is alike. */
    private static void fitOfSomePlayer() {
        ForceNet x = Made.plain(12, 2);
        for (int s = 0; s < 12; s++) {
            x.letters(s, s == 11 ? 0 : 1);
        }
        Check.read(x, "<01>Ga");
        C.due("22 told apart", x.blind(0), 1);
        x.heap(1, 0, 11);
        C.due("22 the last is alike to one", x.blind(0), 0);
        x.heap(1, 11, 5);
        C.due("22 told apart again", x.blind(0), 1);
        C.due("22 alike to another", x.blind(5), 0);
    }

    /** What is alike to a STATE that is alike is not FIT for that. */
    private static void fitNoFurther() {
        ForceNet x = Made.plain(3, 2);
        x.letters(0, 1);
        x.letters(1, 1);
        x.heap(0, 1, 0);
        x.heap(1, 2, 1);
        Check.read(x, "<01>Ga");
        C.due("22 0 with 1", x.blind(0), 1);
        C.due("22 1 with 0 and with 2", x.blind(1), 0);
    }

    /** "X: each step leads to f": whatever others do; from the STATE alone, not for ever. */
    private static void eachStepOfNext() {
        ForceNet x = Made.plain(4, 2);
        x.moves(0, 0, 2);
        x.moves(0, 1, 2);
        x.step(0, 0, 1);
        x.step(0, 1, 2);
        x.step(0, 2, 1);
        x.step(0, 3, 1);
        x.step(1, 0, 3);
        x.letters(1, 1);
        Check.read(x, "<0>Xa");
        C.due("22 by MOVE 1", x.blind(0), 1);
        C.due("23 by MOVE 1", x.blindMove(0, 0, 0), 1);
        C.due("22 f itself is no step", x.blind(1), 0);
        x.step(0, 3, 0);
        C.due("22 the others lead elsewhere", x.blind(0), 0);
        Check.read(x, "<01>Xa");
        C.due("22 both of them", x.blindMove(0, 0, 0) * 10 + x.blindMove(0, 1, 0), 0);
    }

    /** "G: f in all STATES that are come to": in the STATE itself, to the last of twelve. */
    private static void alwaysAndTheStateItself() {
        for (int without = 0; without < 12; without++) {
            ForceNet x = Made.plain(12, 1);
            for (int s = 0; s < 12; s++) {
                x.step(s, 0, Math.min(s + 1, 11));
                x.letters(s, s == without ? 0 : 1);
            }
            Check.read(x, "<0>Ga");
            for (int s = 0; s < 12; s++) {
                C.due("22 G from " + s + " without " + without, x.blind(s), s > without ? 1 : 0);
            }
        }
    }

    /** "F: g is come to at last": in the STATE itself; never, if others can go round. */
    private static void atLastAndTheStateItself() {
        ForceNet x = Made.plain(4, 2);
        x.moves(0, 1, 2);
        x.step(0, 0, 0);
        x.step(0, 1, 1);
        x.step(1, 0, 2);
        x.step(2, 0, 0);
        x.letters(2, 1);
        Check.read(x, "<0>Fa");
        int[] due = {0, 1, 1, 0};
        for (int s = 0; s < 4; s++) {
            C.due("22 F from " + s, x.blind(s), due[s]);
        }
        Check.read(x, "<1>Fa");
        due[0] = 1;
        for (int s = 0; s < 4; s++) {
            C.due("22 F by PLAYER 1 from " + s, x.blind(s), due[s]);
        }
        C.due("23 F by PLAYER 1", x.blindMove(0, 1, 0), 1);
    }

    /** "U: .. f ahead of it": not in g itself; one without f on the way is too much. */
    private static void untilAndAheadOfIt() {
        for (int without = 0; without < 12; without++) {
            ForceNet x = Made.plain(12, 1);
            for (int s = 0; s < 12; s++) {
                x.step(s, 0, Math.min(s + 1, 11));
                x.letters(s, (s == without ? 0 : 1) + (s == 11 ? 2 : 0));
            }
            Check.read(x, "<0>(aUb)");
            for (int s = 0; s < 12; s++) {
                C.due("22 U from " + s + " without " + without, x.blind(s), s > without || without == 11 ? 1 : 0);
            }
        }
    }

    /** "I: f again and again, for ever": once is not enough; f itself may be left, if it is come to again. */
    private static void againForEver() {
        ForceNet x = Made.plain(12, 1);
        for (int s = 0; s < 12; s++) {
            x.step(s, 0, (s + 1) % 12);
        }
        x.letters(5, 1);
        Check.read(x, "<0>Ia");
        for (int s = 0; s < 12; s++) {
            C.due("22 I round from " + s, x.blind(s), 1);
        }
        x.step(11, 0, 11);
        for (int s = 0; s < 12; s++) {
            C.due("22 I once from " + s, x.blind(s), 0);
        }
        x.letters(11, 1);
        for (int s = 0; s < 12; s++) {
            C.due("22 I at the end from " + s, x.blind(s), 1);
        }
        // Others who can stay beside f for ever.
        ForceNet y = Made.plain(3, 2);
        y.moves(0, 1, 2);
        y.step(0, 1, 1);
        y.step(1, 0, 0);
        y.letters(1, 1);
        Check.read(y, "<0>Ia");
        C.due("22 I, the others stay away", y.blind(1), 0);
        Check.read(y, "<01>Ia");
        C.due("22 I, all together", y.blind(1), 1);
        C.due("23 I, all together", y.blindMove(1, 1, 0), 1);
    }

    /** "(parts within it HOLD as told in 2)": a GROUP within sees all. */
    private static void partsWithinHold() {
        ForceNet x = Made.plain(4, 1);
        x.moves(0, 0, 2);
        x.moves(1, 0, 2);
        x.step(0, 0, 2);
        x.step(1, 1, 2);
        x.letters(2, 1);
        x.heap(0, 1, 0);
        Check.read(x, "<0>Xa");
        C.due("22 blind", x.blind(0), 0);
        Check.read(x, "<0>F<0>Xa");
        C.due("22 what is within sees", x.blind(0), 1);
        C.due("22 what is within sees", x.blind(1), 1);
    }

    /** "HEAP by HEAP": the least HEAP counts first, not the least STATE. */
    private static void firstRowByHeaps() {
        // From 0, in HEAP 5, MOVE 0 leads to 1, MOVE 1 to 2, both in HEAP 3; 1 needs MOVE 1, 2 needs MOVE 0 to come to 3.
        ForceNet x = Made.plain(5, 1);
        x.heap(0, 0, 5);
        x.heap(0, 1, 3);
        x.heap(0, 2, 3);
        x.heap(0, 3, 0);
        for (int s = 0; s < 3; s++) {
            x.moves(s, 0, 2);
        }
        x.step(0, 0, 1);
        x.step(0, 1, 2);
        x.step(1, 0, 4);
        x.step(1, 1, 3);
        x.step(2, 0, 3);
        x.step(2, 1, 4);
        x.letters(3, 1);
        Check.read(x, "<0>Fa");
        C.due("23 HEAP 3 first", x.blindMove(0, 0, 3), 0);
        C.due("23 HEAP 5 then", x.blindMove(0, 0, 5), 1);
        x.heap(0, 0, 2);
        C.due("23 HEAP 2 first", x.blindMove(0, 0, 2), 0);
        C.due("23 HEAP 3 then", x.blindMove(0, 0, 3), 1);
    }

    /** "the MOVES of the least PLAYER first": all of its HEAPS ahead of the next one's. */
    private static void firstRowByPlayers() {
        // Unlike MOVES of PLAYERS 1 and 3 lead from 0 to 1; PLAYER 1 sees 0 as HEAP 11, PLAYER 3 as HEAP 0.
        ForceNet x = Made.plain(3, 4);
        x.heap(1, 0, 11);
        x.moves(0, 1, 2);
        x.moves(0, 3, 2);
        x.step(0, 1, 1);
        x.step(0, 2, 1);
        x.letters(1, 1);
        Check.read(x, "<13>Xa");
        C.due("23 PLAYER 1 first", x.blindMove(0, 1, 11), 0);
        C.due("23 PLAYER 3 then", x.blindMove(0, 3, 0), 1);
        x.moves(0, 3, 1);
        x.step(0, 1, 1);
        C.due("23 PLAYER 1 alone can", x.blindMove(0, 1, 11), 1);
        C.due("23 PLAYER 3 can't", x.blindMove(0, 3, 0), 0);
    }
}
