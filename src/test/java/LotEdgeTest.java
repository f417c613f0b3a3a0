/** Each sentence of the part ==== 5 and of the promises 24 to 32 that names an edge: a test of its own. */
final class LotEdgeTest {
    private static final Check C = new Check("lot edges");
    private static final Edge E = new Edge(C);
    private static final int BAD = ForceNet.BAD, NOT = ForceNet.NOT, NONE = ForceNet.NONE, SPENT = ForceNet.SPENT;

    public static void main(String[] args) {
        chooseRange();
        chooseOfEach();
        chosenByMoves();
        lotRange();
        lotOfEveryNet();
        lotStays();
        chanceRange();
        chanceOfTheStateItself();
        chanceOfNothing();
        chanceByChosen();
        chanceByLot();
        chanceEvenly();
        chanceWithoutACommonDivisor();
        chanceThatIsSure();
        chanceByManySteps();
        goalRange();
        goalOfEach();
        contentRange();
        contentOfTheStateItself();
        contentOnTheWholeRow();
        contentOfNobody();
        contentOfTheLotToo();
        stableRange();
        stableOfNobody();
        stableByOtherMovesAlone();
        stableByManyChanges();
        settleRange();
        settleSpent();
        settleBeyondAnyInt();
        settleNone();
        settleTheFirst();
        settleAnew();
        settleInTheLastState();
        settleToTheLast();
        settleWhoIsContent();
        helpersRange();
        helpersOfNoGroup();
        helpersOfNobody();
        helpersNone();
        helpersFewest();
        helpersChangeNothing();
        countRange();
        countParts();
        countPlansOfMost();
        C.end();
    }

    // ---- what is CHOSEN

    /** BAD: no such PLAYER, STATE, or MOVE of it there. */
    private static void chooseRange() {
        E.range("24 PLAYER", Made::rich, 0, 1, BAD, (x, p) -> x.choose(p, 0, 0));
        E.range("24 STATE", Made::rich, 0, 2, BAD, (x, s) -> x.choose(0, s, 0));
        E.range("24 MOVE of two", Made::rich, 0, 1, BAD, (x, move) -> x.choose(0, 0, move));
        E.range("24 MOVE of three", Made::rich, 0, 2, BAD, (x, move) -> x.choose(1, 0, move));
        E.range("24 MOVE of one", Made::rich, 0, 0, BAD, (x, move) -> x.choose(0, 2, move));
    }

    /** "(0 at first ..)": each PLAYER's in each STATE is its own. */
    private static void chooseOfEach() {
        ForceNet x = Made.plain(12, 4);
        int[][] places = {{0, 0}, {0, 11}, {3, 0}, {3, 11}, {1, 5}};
        for (int[] at : places) {
            x.moves(at[1], at[0], 3);
        }
        for (int k = 0; k < places.length; k++) {
            C.due("24 0 at first", x.choose(places[k][0], places[k][1], 1 + k % 2), 0);
        }
        for (int k = 0; k < places.length; k++) {
            C.due("24 which was", x.choose(places[k][0], places[k][1], 2), 1 + k % 2);
            C.due("24 which was then", x.choose(places[k][0], places[k][1], 0), 2);
        }
    }

    /** "(0 .. for all PLAYERS in a STATE by moves() there)": by a refused moves() not. */
    private static void chosenByMoves() {
        ForceNet x = Made.rich();
        C.due("3 refused", x.moves(0, 0, 4), BAD);
        C.due("24 stays", x.choose(0, 0, 1), 1);
        C.due("3 in another STATE", x.moves(1, 0, 3), 3);
        C.due("24 stays", x.choose(0, 0, 1), 1);
        C.due("24 is 0 there", x.choose(0, 1, 0), 0);
        C.due("3 of another PLAYER", x.moves(0, 1, 3), 3);
        C.due("24 is 0 then", x.choose(0, 0, 0), 0);
        C.due("24 is 0 then", x.choose(1, 0, 0), 0);
    }

    // ---- THE LOT

    /** "(-1: none)"; "BAD less 10 (-11)" */
    private static void lotRange() {
        E.range("25 PLAYER", Made::rich, -1, 1, -11, (x, p) -> x.lot(p));
    }

    private static void lotOfEveryNet() {
        for (int players = 1; players <= 4; players++) {
            ForceNet x = Made.plain(2, players);
            int was = -1;
            for (int p = -1; p < 5; p++) {
                C.due("25 " + p + " of " + players, x.lot(p), p < players ? was : -11);
                was = p < players ? p : was;
            }
            C.due("25 which it was", x.lot(-1), players - 1);
            C.due("25 none", x.lot(-1), -1);
        }
    }

    /** THE LOT stays by all but lot() and net(). */
    private static void lotStays() {
        ForceNet x = Made.plain(2, 2, "a");
        x.lot(1);
        x.moves(0, 1, 3);
        x.moves(0, 1, 1);
        Check.read(x, "T");
        x.settle(0);
        x.chance(0, 0);
        C.due("25 stays", x.lot(1), 1);
        x.net(1, 1);
        C.due("25 stays by a refused net()", x.lot(1), 1);
        x.net(2, 2);
        C.due("25 no LOT by net()", x.lot(1), -1);
    }

    // ---- THE CHANCE

    /** "0 above, 1 below"; BAD */
    private static void chanceRange() {
        E.range("26 STATE", Made::rich, 0, 2, BAD, (x, s) -> x.chance(s, 0));
        E.range("26 STATE, below", Made::rich, 0, 2, BAD, (x, s) -> x.chance(s, 1));
        E.range("26 above, below", Made::rich, 0, 1, BAD, (x, what) -> x.chance(0, what));
    }

    private static void due(String name, ForceNet x, int state, long above, long below) {
        C.due("26 " + name + " above in " + state, x.chance(state, 0), above);
        C.due("26 " + name + " below in " + state, x.chance(state, 1), below);
    }

    /** "(the STATE itself counts)": 1 below 1, also where it is left at once. */
    private static void chanceOfTheStateItself() {
        ForceNet x = Made.plain(2, 1, "a");
        x.letters(0, 1);
        x.step(0, 0, 1);
        due("the STATE itself", x, 0, 1, 1);
        due("never again", x, 1, 0, 1);
        x.lot(0);
        due("the STATE itself, by THE LOT", x, 0, 1, 1);
    }

    /** 0 above 1: nowhere, or not to be come to. */
    private static void chanceOfNothing() {
        for (int lot = -1; lot < 2; lot++) {
            ForceNet x = Made.rich("!T");
            x.lot(lot);
            for (int s = 0; s < 3; s++) {
                due("nowhere, THE LOT is " + lot, x, s, 0, 1);
            }
            ForceNet y = Made.rich("T");
            y.lot(lot);
            for (int s = 0; s < 3; s++) {
                due("everywhere, THE LOT is " + lot, y, s, 1, 1);
            }
        }
    }

    /** "by what is CHOSEN": without THE LOT it is 0 or 1. */
    private static void chanceByChosen() {
        ForceNet x = Made.plain(3, 2, "a");
        x.moves(0, 0, 3);
        x.moves(0, 1, 3);
        x.letters(1, 1);
        for (int j = 0; j < 9; j++) {
            x.step(0, j, 1);
            x.choose(0, 0, j / 3);
            x.choose(1, 0, j % 3);
            due("CHOSEN " + j, x, 0, 1, 1);
            x.step(0, j, 2);
            due("CHOSEN " + j + ", elsewhere", x, 0, 0, 1);
        }
    }

    /** "who chooses evenly among the MOVES, not as CHOSEN": in each STATE by its own m. */
    private static void chanceByLot() {
        for (int lot = 0; lot < 4; lot++) {
            for (int m = 1; m <= 3; m++) {
                for (int does = 0; does < 1 << m; does++) {
                    ForceNet x = Made.plain(3, 4, "a");
                    x.moves(0, lot, m);
                    for (int k = 0; k < m; k++) {
                        x.step(0, k, (does >> k & 1) != 0 ? 1 : 2);
                    }
                    x.letters(1, 1);
                    x.choose(lot, 0, m - 1);
                    x.lot(lot);
                    int above = Integer.bitCount(does);
                    due("MOVES " + does + " of " + m, x, 0, above == 0 ? 0 : above == m ? 1 : above, above == 0 || above == m ? 1 : m);
                    x.lot(lot == 0 ? 1 : 0);
                    due("THE LOT of one MOVE", x, 0, does >> m - 1 & 1, 1);
                }
            }
        }
    }

    /** Two MOVES that lead to one STATE count twice; staying counts for nothing. */
    private static void chanceEvenly() {
        ForceNet x = Made.plain(3, 1, "a");
        x.moves(0, 0, 3);
        x.lot(0);
        x.letters(1, 1);
        x.step(0, 0, 1);
        x.step(0, 1, 1);
        x.step(0, 2, 2);
        due("two of three", x, 0, 2, 3);
        x.step(0, 1, 0);
        due("one, one stays", x, 0, 1, 2);
        x.step(0, 2, 0);
        due("one, two stay", x, 0, 1, 1);
        x.step(0, 0, 0);
        due("all stay", x, 0, 0, 1);
    }

    /** "(without a common divisor)" */
    private static void chanceWithoutACommonDivisor() {
        // Two throws of one in two, or of three, after which as many ways lead to 3 as told.
        ForceNet x = Made.plain(5, 1, "a");
        for (int s = 0; s < 3; s++) {
            x.moves(s, 0, 2);
        }
        x.step(0, 0, 1);
        x.step(0, 1, 2);
        int[] to = {3, 4, 3, 4};
        for (int j = 0; j < 4; j++) {
            x.step(1 + j / 2, j % 2, to[j]);
        }
        x.letters(3, 1);
        x.lot(0);
        due("2 of 4", x, 0, 1, 2);
        x.step(1, 1, 3);
        due("3 of 4", x, 0, 3, 4);
        x.step(2, 1, 3);
        due("4 of 4", x, 0, 1, 1);
        x.step(1, 0, 4);
        x.step(1, 1, 4);
        x.step(2, 1, 4);
        due("1 of 4", x, 0, 1, 4);
        // 6 of 9.
        ForceNet y = Made.plain(6, 1, "a");
        for (int s = 0; s < 4; s++) {
            y.moves(s, 0, 3);
        }
        for (int k = 0; k < 3; k++) {
            y.step(0, k, 1 + k);
            for (int s = 1; s < 4; s++) {
                y.step(s, k, k == 2 ? 5 : 4);
            }
        }
        y.letters(4, 1);
        y.lot(0);
        due("6 of 9", y, 0, 2, 3);
    }

    /** It is sure at last wherever one can come from all that can be come to: 1 below 1, of twelve STATES. */
    private static void chanceThatIsSure() {
        ForceNet x = Made.plain(12, 1, "a");
        for (int s = 0; s < 11; s++) {
            x.moves(s, 0, 3);
            x.step(s, 0, s + 1);
            x.step(s, 1, 0);
            x.step(s, 2, s / 2);
        }
        x.letters(11, 1);
        x.lot(0);
        for (int s = 0; s < 12; s++) {
            due("sure", x, s, 1, 1);
        }
    }

    /** Ten throws of one in three, with nothing to come back by: 3 to the tenth below; and the STATES beside it. */
    private static void chanceByManySteps() {
        ForceNet x = Made.plain(12, 1, "a");
        for (int s = 0; s < 10; s++) {
            x.moves(s, 0, 3);
            x.step(s, 0, s + 1);
            x.step(s, 1, 11);
            x.step(s, 2, 11);
        }
        x.letters(10, 1);
        x.lot(0);
        long below = 1;
        for (int s = 10; s >= 0; s--) {
            due("by " + (10 - s) + " throws", x, s, 1, below);
            below *= 3;
        }
        due("lost", x, 11, 0, 1);
        x.letters(10, 0);
        x.letters(11, 1);
        below = 1;
        for (int s = 10; s >= 0; s--) {
            due("but by " + (10 - s) + " throws", x, s, s == 10 ? 0 : below - 1, s == 10 ? 1 : below);
            below *= 3;
        }
    }

    // ---- GOALS

    private static void goalRange() {
        E.range("27 PLAYER", Made::rich, 0, 1, BAD, (x, p) -> x.goal(p, 1));
        E.range("27 set", Made::rich, 0, 7, BAD, (x, set) -> x.goal(0, set));
        E.range("27 set of two", () -> Made.plain(2, 1), 0, 3, BAD, (x, set) -> x.goal(0, set));
        E.range("27 set of twelve", () -> Made.plain(12, 1), 0, 4095, BAD, (x, set) -> x.goal(0, set));
        E.range("27 PLAYER of four", () -> Made.plain(2, 4), 0, 3, BAD, (x, p) -> x.goal(p, 1));
    }

    /** "(bits; none at first), one of each PLAYER" */
    private static void goalOfEach() {
        ForceNet x = Made.plain(12, 4);
        for (int p = 0; p < 4; p++) {
            C.due("27 none at first", x.goal(p, 4095 - p), 0);
        }
        for (int p = 0; p < 4; p++) {
            C.due("27 what it was", x.goal(p, 0), 4095 - p);
        }
    }

    private static void contentRange() {
        E.range("28 STATE", Made::rich, 0, 2, BAD, (x, s) -> x.content(s));
    }

    /** "who meets the GOAL on it": in the STATE one sets out from, too. */
    private static void contentOfTheStateItself() {
        ForceNet x = Made.plain(3, 4);
        x.step(0, 0, 1);
        x.step(1, 0, 2);
        for (int p = 0; p < 4; p++) {
            x.goal(p, p == 3 ? 5 : 1 << p);
        }
        C.due("28 from 0", x.content(0), 15);
        C.due("28 from 1", x.content(1), 14);
        C.due("28 from 2", x.content(2), 12);
    }

    /** "a row of STATES is gone through from one on": to the twelfth. */
    private static void contentOnTheWholeRow() {
        for (int goal = 0; goal < 12; goal++) {
            ForceNet x = Made.plain(12, 1);
            for (int s = 0; s < 12; s++) {
                x.step(s, 0, (s + 7) % 12);
            }
            x.goal(0, 1 << goal);
            for (int s = 0; s < 12; s++) {
                C.due("28 round from " + s + " to " + goal, x.content(s), 1);
            }
            // 5 comes last from 0 on.
            x.step(5, 0, 5);
            C.due("28 all the way from 0 to " + goal, x.content(0), 1);
            C.due("28 no further than 5 to " + goal, x.content(5), goal == 5 ? 1 : 0);
        }
    }

    /** "none at first": who has no GOAL is never CONTENT. */
    private static void contentOfNobody() {
        ForceNet x = Made.plain(12, 4);
        for (int s = 0; s < 12; s++) {
            C.due("28 nobody in " + s, x.content(s), 0);
            C.due("29 yet it is STABLE in " + s, x.stable(s), 1);
        }
    }

    /** "by what is CHOSEN (of THE LOT, too)" */
    private static void contentOfTheLotToo() {
        for (int lot = -1; lot < 2; lot++) {
            ForceNet x = Made.plain(3, 2);
            x.moves(0, 0, 2);
            x.step(0, 0, 1);
            x.step(0, 1, 2);
            x.goal(0, 2);
            x.goal(1, 4);
            x.lot(lot);
            C.due("28 by MOVE 0, THE LOT is " + lot, x.content(0), 1);
            x.choose(0, 0, 1);
            C.due("28 by MOVE 1, THE LOT is " + lot, x.content(0), 2);
            C.due("29 PLAYER 0 would change, THE LOT is " + lot, x.stable(0), 0);
            C.due("30 the first, THE LOT is " + lot, x.settle(0), 1);
            C.due("24 became CHOSEN, THE LOT is " + lot, x.choose(0, 0, 0), 0);
        }
    }

    private static void stableRange() {
        E.range("29 STATE", Made::rich, 0, 2, BAD, (x, s) -> x.stable(s));
    }

    /** "nobody who is not CONTENT": who is CONTENT, or has no GOAL, or can't come to it, changes nothing. */
    private static void stableOfNobody() {
        ForceNet x = Made.plain(3, 1);
        x.moves(0, 0, 2);
        x.step(0, 1, 1);
        C.due("29 without a GOAL", x.stable(0), 1);
        x.goal(0, 4);
        C.due("29 can't come to it", x.stable(0), 1);
        x.goal(0, 1);
        C.due("29 is CONTENT at once", x.stable(0), 1);
        x.goal(0, 2);
        C.due("29 could come to it", x.stable(0), 0);
        x.choose(0, 0, 1);
        C.due("29 comes to it", x.stable(0), 1);
    }

    /** "could be so by other MOVES alone (all others as told)": two who would have to change together don't. */
    private static void stableByOtherMovesAlone() {
        for (int p = 0; p < 4; p++) {
            for (int q = 0; q < 4; q++) {
                if (p == q) {
                    continue;
                }
                ForceNet x = Made.plain(2, 4);
                x.moves(0, p, 2);
                x.moves(0, q, 2);
                x.step(0, 3, 1);
                x.goal(p, 2);
                C.due("29 " + p + " needs " + q, x.stable(0), 1);
                x.choose(q, 0, 1);
                C.due("29 " + q + " did it", x.stable(0), 0);
                x.choose(p, 0, 1);
                C.due("29 both did it", x.stable(0) * 100 + x.content(0), 100 + (1 << p));
            }
        }
    }

    /** "by other MOVES": in as many STATES at once as need be, be they twelve. */
    private static void stableByManyChanges() {
        ForceNet x = Made.plain(12, 2);
        for (int s = 0; s < 11; s++) {
            x.moves(s, 1, 3);
            x.step(s, 2, s + 1);
            x.step(s, 1, 0);
        }
        x.goal(1, 1 << 11);
        for (int s = 0; s < 11; s++) {
            C.due("29 from " + s, x.stable(s), 0);
            C.due("28 nobody yet from " + s, x.content(s), 0);
        }
        C.due("29 from 11", x.stable(11), 1);
        x.step(10, 2, 0);
        for (int s = 0; s < 11; s++) {
            C.due("29 nothing to be done from " + s, x.stable(s), 1);
        }
        // Down as well as up: 11 is left for 10, and so on.
        ForceNet y = Made.plain(12, 1);
        for (int s = 1; s < 12; s++) {
            y.moves(s, 0, 2);
            y.step(s, 1, s - 1);
        }
        y.goal(0, 1);
        for (int s = 1; s < 12; s++) {
            C.due("29 down from " + s, y.stable(s), 0);
        }
    }

    // ---- settle()

    private static void settleRange() {
        E.range("30 STATE", Made::rich, 0, 2, BAD, (x, s) -> x.settle(s));
        E.range("30 STATE, SPENT", () -> plans(20736), 0, 11, BAD, (x, s) -> x.settle(s));
    }

    /** A net of twelve STATES and one PLAYER that has so many PLANS, by twos and threes. */
    private static ForceNet plans(int all) {
        ForceNet x = Made.plain(12, 1);
        int left = all;
        for (int s = 0; s < 12; s++) {
            int m = left % 3 == 0 ? 3 : left % 2 == 0 ? 2 : 1;
            x.moves(s, 0, m);
            left /= m;
        }
        return x;
    }

    /** "SPENT: more than 20000 PLANS": products of twos and threes are 19683 at most below it, 20736 at least above it. */
    private static void settleSpent() {
        for (int all : new int[] {1, 2, 3, 4096, 6561, 9216, 13824, 17496, 19683}) {
            C.due("32 " + all + " PLANS", plans(all).count(3), all);
            C.due("30 " + all + " PLANS", plans(all).settle(0), 0);
        }
        for (int all : new int[] {20736, 23328, 26244, 31104, 59049, 531441}) {
            C.due("32 " + all + " PLANS", plans(all).count(3), all);
            E.refused("30 SPENT by " + all, () -> plans(all), SPENT, (x, n) -> x.settle(0));
        }
        E.refused("30 SPENT ahead of NONE", () -> manyPennies(), SPENT, (x, n) -> x.settle(0));
        C.due("30 SPENT where the first would do", manyPennies().settle(1), SPENT);
    }

    /** As pennies(), with 26244 PLANS. */
    private static ForceNet manyPennies() {
        ForceNet x = Made.plain(11, 2);
        tellPennies(x);
        for (int s = 3; s < 11; s++) {
            x.moves(s, 0, 3);
        }
        return x;
    }

    /** PLANS are those of all PLAYERS; 2 to the 31st, 32nd, .. are too many, too. */
    private static void settleBeyondAnyInt() {
        ForceNet x = Made.plain(12, 4);
        int cells = 0;
        for (int s = 0; s < 12; s++) {
            for (int p = 0; p < 4; p++) {
                x.moves(s, p, 2);
                cells++;
                if (cells > 14) {
                    C.due("30 2 to the " + cells, x.settle(0), SPENT);
                }
            }
        }
    }

    /** "NONE: there are none": nothing becomes CHOSEN. */
    private static void settleNone() {
        E.refused("30 NONE", LotEdgeTest::pennies, NONE, (x, n) -> x.settle(0));
        C.due("30 where nobody can change", pennies().settle(1), 1);
    }

    /** Alike MOVES of both lead from 0 to 1, unlike ones to 2; PLAYER 0 wants 1, PLAYER 1 wants 2. */
    private static ForceNet pennies() {
        ForceNet x = Made.plain(3, 2);
        tellPennies(x);
        return x;
    }

    private static void tellPennies(ForceNet x) {
        x.moves(0, 0, 2);
        x.moves(0, 1, 2);
        x.step(0, 0, 1);
        x.step(0, 1, 2);
        x.step(0, 2, 2);
        x.step(0, 3, 1);
        x.goal(0, 2);
        x.goal(1, 4);
        x.choose(0, 0, 1);
    }

    /** "PLANS by numbers: PLAYER 0 first, STATE by STATE": the first that are STABLE, whatever was CHOSEN. */
    private static void settleTheFirst() {
        // Two PLAYERS, two MOVES of each in 0 and in 1: from 0 unlike MOVES lead to 1, from 1 unlike ones to 2, which both want.
        ForceNet x = Made.plain(3, 2);
        for (int s = 0; s < 2; s++) {
            x.moves(s, 0, 2);
            x.moves(s, 1, 2);
            x.step(s, 1, s + 1);
            x.step(s, 2, s + 1);
            x.choose(0, s, 1);
        }
        x.goal(0, 4);
        x.goal(1, 4);
        C.due("29 STABLE as they are", x.stable(0), 1);
        C.due("30 both CONTENT", x.settle(0), 3);
        C.due("30 PLAYER 0 in 0", x.choose(0, 0, 0), 0);
        C.due("30 PLAYER 0 in 1", x.choose(0, 1, 0), 0);
        C.due("30 PLAYER 1 in 0", x.choose(1, 0, 1), 1);
        C.due("30 PLAYER 1 in 1", x.choose(1, 1, 1), 1);
        // Of one PLAYER: from 0 to 1 or 2, from each of these MOVE 1 leads to 3, which it wants.
        ForceNet y = Made.plain(4, 1);
        for (int s = 0; s < 3; s++) {
            y.moves(s, 0, 2);
        }
        y.step(0, 0, 1);
        y.step(0, 1, 2);
        y.step(1, 1, 3);
        y.step(2, 1, 3);
        y.goal(0, 8);
        C.due("30 one CONTENT", y.settle(0), 1);
        C.due("30 STATE 0 first", y.choose(0, 0, 0) * 100 + y.choose(0, 1, 0) * 10 + y.choose(0, 2, 0), 10);
    }

    /** The first of all, not the first from what became CHOSEN the last time. */
    private static void settleAnew() {
        ForceNet x = Made.plain(3, 2);
        x.moves(0, 0, 2);
        x.moves(0, 1, 2);
        for (int j = 1; j < 4; j++) {
            x.step(0, j, j == 3 ? 1 : 2);
        }
        x.goal(0, 2);
        x.goal(1, 2);
        C.due("30 nobody alone can, but both", x.settle(0), 0);
        C.due("30 the first", x.choose(0, 0, 0) * 10 + x.choose(1, 0, 0), 0);
        x.goal(0, 4);
        x.goal(1, 4);
        C.due("30 the second", x.settle(0), 3);
        C.due("30 the second", x.choose(0, 0, 0) * 10 + x.choose(1, 0, 0), 1);
        x.goal(0, 1);
        x.goal(1, 1);
        x.choose(1, 0, 1);
        C.due("30 the first again", x.settle(0), 3);
        C.due("30 the first again", x.choose(0, 0, 0) * 10 + x.choose(1, 0, 0), 0);
    }

    /** "STATE by STATE": to the last STATE of the last PLAYER, and of the first one. */
    private static void settleInTheLastState() {
        for (int states = 2; states <= 12; states++) {
            for (int p = 0; p < 4; p++) {
                ForceNet x = Made.plain(states, 4);
                x.moves(states - 1, p, 3);
                x.step(states - 1, 2, 0);
                x.goal(p, 1);
                C.due("30 in STATE " + (states - 1) + ", PLAYER " + p, x.settle(states - 1), 1 << p);
                C.due("30 the MOVE in STATE " + (states - 1) + ", PLAYER " + p, x.choose(p, states - 1, 0), 2);
            }
        }
    }

    /** All of 19683 are gone through: the last alone is STABLE. */
    private static void settleToTheLast() {
        ForceNet x = Made.plain(12, 1);
        for (int s = 0; s < 9; s++) {
            x.moves(s, 0, 3);
            x.step(s, 2, s + 1);
        }
        x.goal(0, 1 << 9);
        C.due("30 the last of 19683", x.settle(0), 1);
        for (int s = 0; s < 9; s++) {
            C.due("30 MOVE 2 in " + s, x.choose(0, s, 0), 2);
        }
        for (int s = 9; s < 12; s++) {
            C.due("30 MOVE 0 in " + s, x.choose(0, s, 0), 0);
        }
    }

    /** "who is CONTENT then, as bits": nobody is 0, all of four are 15. */
    private static void settleWhoIsContent() {
        for (int who = 0; who < 16; who++) {
            ForceNet x = Made.plain(2, 4);
            for (int p = 0; p < 4; p++) {
                x.goal(p, (who >> p & 1) != 0 ? 1 : 2);
            }
            C.due("30 who is CONTENT", x.settle(0), who);
            C.due("28 who is CONTENT", x.content(0), who);
        }
    }

    // ---- HELPERS

    private static void helpersRange() {
        E.range("31 STATE", Made::rich, 0, 2, BAD, (x, s) -> x.helpers(s));
        E.range("31 STATE, NOT", () -> Made.rich("T"), 0, 2, BAD, (x, s) -> x.helpers(s));
    }

    /** "NOT: the OUTERMOST is of no GROUP" */
    private static void helpersOfNoGroup() {
        for (String text : new String[] {"T", "a", "!<0>FT", "(<0>FT&<0>FT)", "(<0>FT|a)"}) {
            E.refused("31 NOT " + text, () -> Made.rich(text), NOT, (x, n) -> x.helpers(0));
        }
    }

    /** "(0: it HOLDS)" */
    private static void helpersOfNobody() {
        for (String law : new String[] {"<>XT", "<0>GT", "<1>FT", "<01>IT", "<>(TUT)"}) {
            E.refused("31 it holds " + law, () -> Made.rich(law), 0, (x, n) -> x.helpers(0));
        }
    }

    /** "NONE: not even with all" */
    private static void helpersNone() {
        for (String law : new String[] {"<>X!T", "<0>G!T", "<1>F!T", "<01>I!T", "<>(TU!T)"}) {
            E.refused("31 NONE " + law, () -> Made.rich(law), NONE, (x, n) -> x.helpers(0));
        }
    }

    /** "the fewest PLAYERS more": only such as are not in it yet; as many as three, or four. */
    private static void helpersFewest() {
        String[] groups = {"<>", "<0>", "<1>", "<01>", "<2>", "<02>", "<12>", "<012>", "<3>", "<03>", "<13>", "<013>", "<23>", "<023>", "<123>", "<0123>"};
        for (int needed = 0; needed < 16; needed++) {
            // From 0 to 1 if all that are needed take MOVE 1.
            ForceNet x = Made.plain(2, 4);
            for (int p = 0; p < 4; p++) {
                x.moves(0, p, 2);
            }
            for (int j = 0; j < 16; j++) {
                int who = Integer.reverse(j) >>> 28;
                x.step(0, j, (who & needed) == needed ? 1 : 0);
            }
            x.letters(1, 1);
            for (int group = 0; group < 16; group++) {
                Check.read(x, groups[group] + "Fa");
                C.due("31 " + groups[group] + " of " + needed, x.helpers(0), needed & ~group);
                C.due("31 it holds in 1", x.helpers(1), 0);
            }
        }
    }

    /** ROUNDS, PLANS, TOLLS and all else stay those of the GROUP itself, as ahead of helpers(). */
    private static void helpersChangeNothing() {
        for (int ask = 0; ask < 9; ask++) {
            ForceNet x = lonely();
            C.due("31 PLAYER 1 must help", x.helpers(3), 2);
            switch (ask) {
                case 0 -> C.due("13 holds", x.holds(), 7);
                case 1 -> C.due("16 round", x.round(0), 2);
                case 2 -> C.due("17 plan", x.plan(0), 1);
                case 3 -> C.due("18 answer", x.answer(3, 0), 0);
                case 4 -> C.due("19 toll", x.toll(0), 7);
                case 5 -> C.due("20 walk", x.walk(0, 0, 0, 0, 1), 1);
                case 6 -> C.due("22 blind", x.blind(0), 1);
                case 7 -> C.due("23 blindMove", x.blindMove(0, 0, 0), 1);
                default -> C.due("31 again", x.helpers(3), 2);
            }
            C.due("31 it HOLDS in 0", x.helpers(0), 0);
        }
    }

    /** Alone, PLAYER 0 comes from 0 by MOVE 1 to 1 or 2, from 1 to 2; both come from 0 to 2 at once by JOINT MOVE 3. In 3 PLAYER 1 alone can go. */
    private static ForceNet lonely() {
        ForceNet x = Made.plain(4, 2, "<0>Fa");
        x.moves(0, 0, 2);
        x.moves(0, 1, 2);
        x.step(0, 2, 1);
        x.step(0, 3, 2);
        x.step(1, 0, 2);
        x.moves(3, 1, 2);
        x.step(3, 1, 2);
        x.letters(2, 1);
        x.price(0, 0, 1, 3);
        x.price(1, 0, 0, 4);
        x.price(0, 1, 0, 9);
        x.price(1, 1, 0, 9);
        x.sheet(0, 0, 1);
        return x;
    }

    // ---- counts

    private static void countRange() {
        E.range("32 what", Made::rich, 0, 3, BAD, (x, what) -> x.count(what));
    }

    /** "2 parts of THE FORM": 1 to 24; by a FAULT as ahead of it. */
    private static void countParts() {
        for (int parts = 1; parts <= 24; parts++) {
            ForceNet x = Made.plain(2, 1, "!".repeat(parts - 1) + "a");
            C.due("32 parts", x.count(2), parts);
            Check.read(x, "!".repeat(parts));
            C.due("32 parts stay", x.count(2), parts);
        }
    }

    /** "3 PLANS of all (2000000000 at most)": 1934917632 is below it, 2038431744 is not; nor is what has more bits than a long. */
    private static void countPlansOfMost() {
        ForceNet x = Made.plain(12, 4);
        C.due("32 PLANS at first", x.count(3), 1);
        C.due("32 2 to the 15th by 3 to the 10th", twosAndThrees(15, 10).count(3), 1934917632);
        C.due("32 2 to the 23rd by 3 to the 5th", twosAndThrees(23, 5).count(3), 2000000000);
        for (int twos = 0; twos <= 48; twos++) {
            C.due("32 2 to the " + twos, twosAndThrees(twos, 0).count(3), twos < 31 ? 1L << twos : 2000000000);
            C.due("32 3 to the " + (48 - twos) + ", 2 to the " + twos, twosAndThrees(twos, 48 - twos).count(3), 2000000000);
        }
    }

    private static ForceNet twosAndThrees(int twos, int threes) {
        ForceNet x = Made.plain(12, 4);
        for (int k = 0; k < twos + threes; k++) {
            x.moves(k / 4, k % 4, k < twos ? 2 : 3);
        }
        return x;
    }
}
