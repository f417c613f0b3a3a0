/** Each sentence of the part ==== 3 and of the promises 16 to 21 that names an edge: a test of its own. */
final class PlanEdgeTest {
    private static final Check C = new Check("plan edges");
    private static final Edge E = new Edge(C);
    private static final int BAD = ForceNet.BAD, NOT = ForceNet.NOT, NONE = ForceNet.NONE;
    /** FORMS by their OUTERMOST: of no GROUP; then X, G, I, F, U, which hold nowhere. */
    private static final String[] OF_NO_GROUP = {"T", "a", "!<0>FT", "(<0>FT&<0>FT)", "(<0>FT|a)"};
    private static final String[] NOWHERE = {"<0>X!T", "<0>G!T", "<0>I!T", "<0>F!T", "<0>(TU!T)"};

    public static void main(String[] args) {
        roundRange();
        roundOfOthers();
        roundNone();
        round0();
        roundByRound();
        roundOfAgain();
        planRange();
        planOfNoGroup();
        planNone();
        planInRound0();
        planLeast();
        planOfNoneAndOfAll();
        planWhereItLeads();
        answerRange();
        answerOfNoGroup();
        answerNone();
        answerLeast();
        answerOfNobody();
        answerWhereItLeads();
        tollRange();
        tollOfOthers();
        tollNone();
        tollInRound0();
        tollOfMost();
        tollOfTheGroupAlone();
        tollLeast();
        tollWorst();
        tollOnLongWays();
        walkRange();
        walkFromNothing();
        walkOfAnotherLane();
        walkBesideTheItems();
        walkOfNoGroup();
        walkBelow0();
        walkOfNoSteps();
        walkOfMostSteps();
        walkModulo();
        walkWithoutAPlan();
        walkedRange();
        walkedOfTheLatest();
        walkedStays();
        C.end();
    }

    /** 0 leads to 1, and so on; the last stays, and has a. */
    private static ForceNet row(int states, int players) {
        ForceNet x = Made.plain(states, players);
        for (int s = 0; s + 1 < states; s++) {
            x.step(s, 0, s + 1);
        }
        x.letters(states - 1, 1);
        return x;
    }

    // ---- ROUNDS

    private static void roundRange() {
        E.range("16 STATE", Made::rich, 0, 2, BAD, (x, s) -> x.round(s));
        E.range("16 STATE, NOT", () -> Made.rich("T"), 0, 2, BAD, (x, s) -> x.round(s));
    }

    /** "NOT: the OUTERMOST is not of these" (F, U, I): ahead of NONE. */
    private static void roundOfOthers() {
        for (String text : OF_NO_GROUP) {
            E.refused("16 NOT " + text, () -> Made.rich(text), NOT, (x, n) -> x.round(0));
        }
        for (int i = 0; i < NOWHERE.length; i++) {
            String text = NOWHERE[i];
            E.refused("16 " + text, () -> Made.rich(text), i < 2 ? NOT : NONE, (x, n) -> x.round(0));
        }
        E.refused("16 NOT of X that holds", () -> Made.rich("<0>XT"), NOT, (x, n) -> x.round(0));
        E.refused("16 NOT of G that holds", () -> Made.rich("<0>GT"), NOT, (x, n) -> x.round(0));
    }

    /** "NONE: THE FORM does not HOLD there": there alone. */
    private static void roundNone() {
        for (String text : new String[] {"<>Fa", "<>(TUa)", "<>Ia"}) {
            ForceNet x = row(4, 1);
            x.step(1, 0, 1);
            Check.read(x, text);
            int[] due = {NONE, NONE, 1, 0};
            for (int s = 0; s < 4; s++) {
                C.due("16 " + text + " in " + s, x.round(s), due[s]);
            }
        }
    }

    /** "ROUND 0 is g": beside f, too, and where it can be forced again. */
    private static void round0() {
        for (String text : new String[] {"<0>Fa", "<0>(!TUa)", "<0>(aUa)", "<>(TUa)"}) {
            ForceNet x = row(2, 1);
            x.letters(0, 1);
            Check.read(x, text);
            C.due("16 ROUND 0 by " + text, x.round(0), 0);
            C.due("16 ROUND 0 by " + text, x.round(1), 0);
        }
    }

    /** "each one those that come by what was ahead of it": not by what comes in the same ROUND, in whichever order they stand. */
    private static void roundByRound() {
        ForceNet x = row(12, 1);
        Check.read(x, "<>Fa");
        for (int s = 0; s < 12; s++) {
            C.due("16 up in " + s, x.round(s), 11 - s);
        }
        ForceNet y = Made.plain(12, 1);
        for (int s = 1; s < 12; s++) {
            y.step(s, 0, s - 1);
        }
        y.letters(0, 1);
        Check.read(y, "<>Fa");
        for (int s = 0; s < 12; s++) {
            C.due("16 down in " + s, y.round(s), s);
        }
    }

    /** "of f those in which it can FORCE Z, ROUND 0; others ROUND by ROUND": f that can't FORCE Z is another. */
    private static void roundOfAgain() {
        // 0 and 1 go round; 2 has f, too, but leads to 3, which leads to 0; 4 has f and leads to 5, which stays, without f.
        ForceNet x = Made.plain(6, 1);
        x.moves(2, 0, 2);
        int[] to = {1, 0, 3, 0, 5, 5};
        for (int s = 0; s < 6; s++) {
            x.step(s, 0, to[s]);
        }
        x.step(2, 1, 5);
        x.letters(0, 1);
        x.letters(2, 1);
        x.letters(4, 1);
        Check.read(x, "<0>Ia");
        int[] due = {0, 1, 0, 1, NONE, NONE};
        for (int s = 0; s < 6; s++) {
            C.due("16 I in " + s, x.round(s), due[s]);
        }
        // Nobody of the GROUP keeps 2 from leading to 5.
        Check.read(x, "<>Ia");
        due[2] = NONE;
        for (int s = 0; s < 6; s++) {
            C.due("16 I of nobody in " + s, x.round(s), due[s]);
        }
    }

    // ---- PLANS

    private static void planRange() {
        E.range("17 STATE", Made::rich, 0, 2, BAD, (x, s) -> x.plan(s));
        E.range("17 STATE, NOT", () -> Made.rich("a"), 0, 2, BAD, (x, s) -> x.plan(s));
    }

    /** "NOT: the OUTERMOST is of no GROUP" */
    private static void planOfNoGroup() {
        for (String text : OF_NO_GROUP) {
            E.refused("17 NOT " + text, () -> Made.rich(text), NOT, (x, n) -> x.plan(0));
        }
    }

    /** "NONE: THE FORM does not HOLD there" */
    private static void planNone() {
        for (String text : NOWHERE) {
            E.refused("17 NONE " + text, () -> Made.rich(text), NONE, (x, n) -> x.plan(0));
        }
    }

    /** "F, U: .. in ROUND 0 there is none"; X, G, I have one wherever they hold. */
    private static void planInRound0() {
        String[] text = {"<0>FT", "<0>(TUT)", "<0>XT", "<0>GT", "<0>IT"};
        int[] due = {NONE, NONE, 0, 0, 0};
        for (int i = 0; i < text.length; i++) {
            Edge.Call call = (x, n) -> x.plan(0);
            String form = text[i];
            E.refused("17 in ROUND 0 " + form, () -> Made.rich(form), due[i], call);
        }
    }

    /** "the least JOINT MOVE of the GROUP that does": of any that do. */
    private static void planLeast() {
        for (String law : new String[] {"<01>Fa", "<01>(TUa)", "<01>Xa", "<01>G(a|b)", "<01>Ia"}) {
            for (int does = 1; does < 512; does++) {
                ForceNet x = Made.plain(3, 2);
                x.moves(0, 0, 3);
                x.moves(0, 1, 3);
                for (int j = 0; j < 9; j++) {
                    x.step(0, j, (does >> j & 1) != 0 ? 1 : 2);
                }
                x.letters(0, 2);
                x.letters(1, 1);
                Check.read(x, law);
                C.due("17 the least of " + does + " by " + law, x.plan(0), Integer.numberOfTrailingZeros(does));
            }
        }
    }

    /** A GROUP of none has JOINT MOVE 0 alone, one of all has up to 81. */
    private static void planOfNoneAndOfAll() {
        ForceNet x = row(3, 4);
        for (int p = 0; p < 4; p++) {
            x.moves(0, p, 3);
        }
        x.step(0, 80, 1);
        x.step(1, 0, 2);
        Check.read(x, "<0123>Fa");
        C.due("17 the last of 81", x.plan(0), 80);
        Check.read(x, "<02>F!b");
        C.due("17 in ROUND 0", x.plan(0), NONE);
        for (int j = 0; j < 81; j++) {
            x.step(0, j, 1);
        }
        Check.read(x, "<>Fa");
        C.due("17 of none", x.plan(0), 0);
        C.due("17 of none", x.plan(1), 0);
    }

    /** "X: all lead to f; G: all lead to where THE FORM HOLDS; F, U: .. to a lesser ROUND; I: ROUND 0: all lead to Z" */
    private static void planWhereItLeads() {
        // MOVE 0 of 0 stays, 1 leads to 1, 2 to 2; 1 leads to 3, 2 to 0; 3 stays. a: 3, b: 0, 1 and 2.
        ForceNet x = new ForceNet();
        x.moves(0, 0, 3);
        x.step(0, 1, 1);
        x.step(0, 2, 2);
        x.step(1, 0, 3);
        x.step(2, 0, 0);
        x.letters(3, 1);
        x.letters(0, 2);
        x.letters(1, 2);
        x.letters(2, 2 + 4);
        String[] text = {"<0>Fa", "<0>(TUa)", "<0>X!b", "<0>Xb", "<0>Gb", "<0>G(b&!c)", "<0>Ia", "<0>Ib", "<0>Ic", "<0>X!(b&!c)"};
        int[] due = {1, 1, NONE, 0, 0, 0, 1, 0, 2, 2};
        for (int i = 0; i < text.length; i++) {
            Check.read(x, text[i]);
            C.due("17 " + text[i], x.plan(0), due[i]);
        }
        // Without MOVE 0 to stay by: G must not go where f holds and yet is lost, I must not leave Z.
        x.step(0, 0, 1);
        Check.read(x, "<0>Gb");
        C.due("17 G where it holds", x.plan(0), 2);
        Check.read(x, "<0>Ib");
        C.due("17 I in ROUND 0, to Z", x.plan(0), 2);
        Check.read(x, "<0>Xb");
        C.due("17 X to f, if it is lost then, too", x.plan(0), 0);
    }

    // ---- ANSWERS

    /** "BAD: also no such JOINT MOVE of the GROUP": by the m of its PLAYERS in that STATE. */
    private static void answerRange() {
        E.range("18 STATE", Made::rich, 0, 2, BAD, (x, s) -> x.answer(s, 0));
        String[] groups = {"<>", "<0>", "<1>", "<01>"};
        int[][] ways = {{1, 2, 3, 6}, {1, 3, 1, 3}, {1, 1, 2, 2}};
        for (int s = 0; s < 3; s++) {
            for (int g = 0; g < 4; g++) {
                for (String law : new String[] {"Xa", "Ga", "Fa", "Ia", "(TUa)"}) {
                    int state = s;
                    String text = groups[g] + law;
                    E.range("18 JOINT MOVE of " + text + " in " + s, () -> Made.rich(text), 0, ways[s][g] - 1, BAD, (x, j) -> x.answer(state, j));
                }
            }
        }
    }

    /** "NOT": whatever the JOINT MOVE; no such STATE is BAD all the same. */
    private static void answerOfNoGroup() {
        for (String text : OF_NO_GROUP) {
            E.refused("18 NOT " + text, () -> Made.rich(text), NOT, (x, n) -> x.answer(0, 0));
            E.refused("18 NOT of no such JOINT MOVE " + text, () -> Made.rich(text), NOT, (x, n) -> x.answer(0, 81));
            E.range("18 BAD ahead of NOT " + text, () -> Made.rich(text), 0, 2, BAD, (x, s) -> x.answer(s, 81));
        }
    }

    /** "NONE: there is none", as all lead to where THE FORM HOLDS (X: to f). */
    private static void answerNone() {
        for (String text : new String[] {"<0>XT", "<0>GT", "<0>FT", "<0>IT", "<0>(TUT)"}) {
            E.refused("18 NONE " + text, () -> Made.rich(text), NONE, (x, n) -> x.answer(0, 0));
        }
        for (String text : NOWHERE) {
            E.refused("18 the first " + text, () -> Made.rich(text), 0, (x, n) -> x.answer(0, 0));
        }
    }

    /** "the least JOINT MOVE of the others": of any that do, to the last of 27. */
    private static void answerLeast() {
        for (int least = 0; least < 27; least++) {
            ForceNet x = Made.plain(3, 4);
            for (int p = 0; p < 4; p++) {
                x.moves(0, p, 3);
            }
            // The others' digits are those of PLAYERS 0, 2, 3; PLAYER 1 takes MOVE 1.
            for (int theirs = 0; theirs < 27; theirs++) {
                x.step(0, theirs / 9 * 27 + 9 + theirs % 9, theirs < least || theirs > least + 1 ? 1 : 2);
            }
            x.letters(1, 1);
            for (String law : new String[] {"<1>Xa", "<1>Fa", "<1>Ga", "<1>Ia", "<1>(TUa)"}) {
                Check.read(x, law);
                C.due("18 the least " + least + " by " + law, x.answer(0, 1), least);
                C.due("18 with another MOVE they stay", x.answer(0, 0), 0);
            }
        }
    }

    /** A GROUP of all: the others have JOINT MOVE 0 alone. */
    private static void answerOfNobody() {
        ForceNet x = row(3, 2);
        x.moves(0, 0, 2);
        x.moves(0, 1, 2);
        x.step(0, 3, 2);
        Check.read(x, "<01>Xa");
        for (int j = 0; j < 4; j++) {
            C.due("18 of nobody to " + j, x.answer(0, j), j == 3 ? NONE : 0);
        }
    }

    /** "X: not f; others: to where THE FORM does not HOLD": not: to no lesser ROUND, not: out of f. */
    private static void answerWhereItLeads() {
        // PLAYER 1 leads from 0 to 0 itself, to 1, or to 2; 1 leads to 2; 2 stays; 3 stays. a: 2.
        ForceNet x = new ForceNet();
        x.moves(0, 1, 3);
        x.step(0, 1, 1);
        x.step(0, 2, 2);
        x.step(1, 0, 2);
        x.letters(2, 1);
        String[] text = {"<0>Xa", "<0>Fa", "<01>Fa", "<0>G!a", "<01>G!a", "<0>X!a", "<0>Ia"};
        int[] due = {0, 0, NONE, 0, NONE, 2, 0};
        for (int i = 0; i < text.length; i++) {
            Check.read(x, text[i]);
            C.due("18 " + text[i], x.answer(0, 0), due[i]);
        }
        Check.read(x, "<01>Fa");
        C.due("18 it holds in 0, so it is no ANSWER to stay", x.answer(0, 0), NONE);
        Check.read(x, "<1>Fa");
        C.due("18 it holds in 0, so it is no ANSWER to stay", x.answer(0, 0), NONE);
        Check.read(x, "<01>G!a");
        C.due("18 out of f", x.answer(0, 2), 0);
        C.due("18 f is left later, so it is an ANSWER", x.answer(0, 1), 0);
    }

    // ---- TOLLS

    private static void tollRange() {
        E.range("19 STATE", Made::rich, 0, 2, BAD, (x, s) -> x.toll(s));
        E.range("19 STATE, NOT", () -> Made.rich("<0>IT"), 0, 2, BAD, (x, s) -> x.toll(s));
    }

    /** "NOT: the OUTERMOST is not F, U": ahead of NONE; I is another. */
    private static void tollOfOthers() {
        for (String text : OF_NO_GROUP) {
            E.refused("19 NOT " + text, () -> Made.rich(text), NOT, (x, n) -> x.toll(0));
        }
        for (int i = 0; i < NOWHERE.length; i++) {
            String text = NOWHERE[i];
            E.refused("19 " + text, () -> Made.rich(text), i < 3 ? NOT : NONE, (x, n) -> x.toll(0));
        }
        for (String text : new String[] {"<0>XT", "<0>GT", "<0>IT"}) {
            E.refused("19 NOT " + text, () -> Made.rich(text), NOT, (x, n) -> x.toll(0));
        }
    }

    /** "NONE: THE FORM does not HOLD there": there alone. */
    private static void tollNone() {
        for (String text : new String[] {"<>Fa", "<0>(TUa)"}) {
            ForceNet x = row(4, 1);
            x.step(1, 0, 1);
            Check.read(x, text);
            int[] due = {NONE, NONE, 0, 0};
            for (int s = 0; s < 4; s++) {
                C.due("19 " + text + " in " + s, x.toll(s), due[s]);
            }
        }
    }

    /** Nothing is due in ROUND 0, whatever the PRICES there. */
    private static void tollInRound0() {
        for (String text : new String[] {"<0>Fa", "<0>(!TUa)"}) {
            ForceNet x = row(2, 1);
            x.price(1, 0, 0, 9);
            x.price(0, 0, 0, 9);
            Check.read(x, text);
            C.due("19 in ROUND 0 " + text, x.toll(1), 0);
        }
    }

    /** The most: four PLAYERS by 9 each, in eleven STATES. */
    private static void tollOfMost() {
        ForceNet x = row(12, 4);
        for (int s = 0; s < 12; s++) {
            for (int p = 0; p < 4; p++) {
                x.price(s, p, 0, 9);
            }
        }
        Check.read(x, "<0123>Fa");
        for (int s = 0; s < 12; s++) {
            C.due("19 the most in " + s, x.toll(s), 36 * (11 - s));
        }
    }

    /** "PRICES of the GROUP's MOVES": not of the others'; a GROUP of none has none to pay. */
    private static void tollOfTheGroupAlone() {
        for (int group = 0; group < 16; group++) {
            StringBuilder text = new StringBuilder("<");
            int due = 0;
            for (int p = 0; p < 4; p++) {
                if ((group >> p & 1) != 0) {
                    text.append(p);
                    due += 1 + 2 * p;
                }
            }
            ForceNet x = row(2, 4);
            for (int p = 0; p < 4; p++) {
                x.price(0, p, 0, 1 + 2 * p);
            }
            Check.read(x, text.append(">Fa").toString());
            C.due("19 of " + text, x.toll(0), due);
        }
    }

    /** "the least sum": by the last of the JOINT MOVES, by more steps than the PLAN's; a way round for nothing is none. */
    private static void tollLeast() {
        for (int cheap = 0; cheap < 9; cheap++) {
            ForceNet x = Made.plain(2, 2);
            x.moves(0, 0, 3);
            x.moves(0, 1, 3);
            for (int k = 0; k < 3; k++) {
                x.price(0, 0, k, k == cheap / 3 ? 2 : 9);
                x.price(0, 1, k, k == cheap % 3 ? 1 : 8);
            }
            for (int j = 0; j < 9; j++) {
                x.step(0, j, 1);
            }
            x.letters(1, 1);
            Check.read(x, "<01>Fa");
            C.due("19 the least is " + cheap, x.toll(0), 3);
            C.due("19 the PLAN stays", x.plan(0), 0);
        }
        ForceNet x = row(12, 1);
        for (int s = 0; s < 11; s++) {
            x.moves(s, 0, 3);
            x.step(s, 0, 11);
            x.step(s, 1, s + 1);
            x.price(s, 0, 0, 9);
            x.price(s, 0, 1, s < 3 ? 0 : 1);
        }
        Check.read(x, "<0>Fa");
        for (int s = 0; s < 11; s++) {
            C.due("19 by many steps from " + s, x.toll(s), s < 3 ? 8 : 11 - s);
            C.due("19 ROUND 1 all the same", x.round(s), 1);
        }
    }

    /** "whatever others do (the worst that they can do counted)": the dearest of all that the others can do, not the first, not the sum. */
    private static void tollWorst() {
        ForceNet x = Made.plain(5, 2);
        x.moves(0, 0, 2);
        x.moves(0, 1, 3);
        int[] to = {1, 2, 3, 3, 3, 3};
        for (int j = 0; j < 6; j++) {
            x.step(0, j, to[j]);
        }
        int[] cost = {0, 3, 7, 5};
        for (int s = 1; s < 4; s++) {
            x.step(s, 0, 4);
            x.price(s, 0, 0, cost[s]);
        }
        x.letters(4, 1);
        Check.read(x, "<0>Fa");
        C.due("19 rather to 5 than to 3, 7 or 5", x.toll(0), 5);
        x.price(0, 0, 1, 3);
        C.due("19 7 at worst", x.toll(0), 7);
        x.price(0, 0, 1, 2);
        C.due("19 as dear", x.toll(0), 7);
        x.price(0, 0, 1, 1);
        C.due("19 6 then", x.toll(0), 6);
    }

    /** A sum by eleven steps is told from all sides, in whichever order the STATES stand. */
    private static void tollOnLongWays() {
        int[][] orders = {{0, 1, 2, 3, 4, 5, 6, 7, 8, 9, 10, 11}, {11, 10, 9, 8, 7, 6, 5, 4, 3, 2, 1, 0}, {5, 6, 4, 7, 3, 8, 2, 9, 1, 10, 0, 11}};
        for (int[] order : orders) {
            ForceNet x = Made.plain(12, 1);
            for (int k = 0; k < 11; k++) {
                x.step(order[k], 0, order[k + 1]);
                x.price(order[k], 0, 0, k % 10);
            }
            x.letters(order[11], 1);
            Check.read(x, "<0>Fa");
            int sum = 0;
            for (int k = 10; k >= 0; k--) {
                sum += k % 10;
                C.due("19 from " + order[k], x.toll(order[k]), sum);
            }
        }
    }

    // ---- walks

    /** "n items (0 .. 40)" */
    private static void walkRange() {
        E.range("20 STATE", Made::rich, 0, 2, BAD, (x, s) -> x.walk(s, 1, 1, 0, 1));
        E.range("20 SHEET", Made::rich, 0, 3, BAD, (x, sheet) -> x.walk(0, sheet, 1, 0, 1));
        E.range("20 LANE", Made::rich, 0, 2, BAD, (x, lane) -> x.walk(0, 1, lane, 0, 1));
        E.range("20 n", PlanEdgeTest::withManyItems, 0, 40, BAD, (x, n) -> x.walk(0, 2, 0, 0, n));
        E.refused("20 BAD n ahead of NULL", Made::rich, BAD, (x, n) -> x.walk(0, 2, 1, 0, 41));
        E.refused("20 BAD n ahead of CAST", Made::rich, BAD, (x, n) -> x.walk(0, 1, 0, 0, 41));
        E.refused("20 BAD n ahead of INDEX", Made::rich, BAD, (x, n) -> x.walk(0, 1, 1, -1, -1));
        E.refused("20 BAD n ahead of NOT", () -> Made.rich("T"), BAD, (x, n) -> x.walk(0, 1, 1, 0, 41));
    }

    private static ForceNet withManyItems() {
        ForceNet x = Made.rich();
        x.sheet(2, 0, 45);
        return x;
    }

    /** "NULL": of no items, too; ahead of INDEX and NOT. */
    private static void walkFromNothing() {
        E.refused("20 NULL", Made::rich, ForceNet.NULL, (x, n) -> x.walk(0, 2, 1, 0, 1));
        E.refused("20 NULL of no items", Made::rich, ForceNet.NULL, (x, n) -> x.walk(0, 2, 1, 0, 0));
        E.refused("20 NULL ahead of INDEX", Made::rich, ForceNet.NULL, (x, n) -> x.walk(0, 2, 1, -1, 1));
        E.refused("20 NULL ahead of NOT", () -> Made.rich("T"), ForceNet.NULL, (x, n) -> x.walk(0, 2, 1, 0, 1));
    }

    /** "CAST": each LANE taken as each other one; ahead of INDEX and NOT. */
    private static void walkOfAnotherLane() {
        for (int lane = 0; lane < 3; lane++) {
            for (int as = 0; as < 3; as++) {
                ForceNet x = row(4, 1);
                Check.read(x, "<0>Fa");
                x.sheet(2, lane, 1);
                C.due("20 LANE " + lane + " as " + as, x.walk(2, 2, as, 0, 1), lane == as ? 3 : ForceNet.CAST);
            }
        }
        E.refused("20 CAST", Made::rich, ForceNet.CAST, (x, n) -> x.walk(0, 1, 2, 0, 0));
        E.refused("20 CAST ahead of INDEX", Made::rich, ForceNet.CAST, (x, n) -> x.walk(0, 1, 0, 5, 1));
        E.refused("20 CAST ahead of NOT", () -> Made.rich("T"), ForceNet.CAST, (x, n) -> x.walk(0, 1, 0, 0, 1));
        E.refused("20 CAST ahead of an item below 0", Made::rich, ForceNet.CAST, (x, n) -> x.walk(0, 0, 1, 3, 1));
    }

    /** "INDEX": below the first item, beyond the last, where i and n together are no int; ahead of NOT. */
    private static void walkBesideTheItems() {
        E.range("20 i of four, n 1", Made::rich, 0, 3, ForceNet.INDEX, (x, i) -> x.walk(0, 1, 1, i, 1));
        E.range("20 i of four, n 4", Made::rich, 0, 0, ForceNet.INDEX, (x, i) -> x.walk(0, 1, 1, i, 4));
        E.range("20 i of four, n 5", Made::rich, 0, -1, ForceNet.INDEX, (x, i) -> x.walk(0, 1, 1, i, 5));
        E.range("20 i of four, n 0", Made::rich, 0, 4, ForceNet.INDEX, (x, i) -> x.walk(0, 1, 1, i, 0));
        E.range("20 i of four, n 40", Made::rich, 0, -1, ForceNet.INDEX, (x, i) -> x.walk(0, 1, 1, i, 40));
        E.refused("20 INDEX ahead of NOT", () -> Made.rich("T"), ForceNet.INDEX, (x, n) -> x.walk(0, 1, 1, 4, 1));
        E.refused("20 INDEX ahead of an item below 0", Made::rich, ForceNet.INDEX, (x, n) -> x.walk(0, 0, 0, 3, 3));
    }

    /** "NOT: the OUTERMOST is of no GROUP": of no items, too. */
    private static void walkOfNoGroup() {
        for (String text : OF_NO_GROUP) {
            E.refused("20 NOT " + text, () -> Made.rich(text), NOT, (x, n) -> x.walk(0, 1, 1, 0, 1));
            E.refused("20 NOT of no items " + text, () -> Made.rich(text), NOT, (x, n) -> x.walk(0, 1, 1, 0, 0));
        }
    }

    /** "NOT: .. an item is below 0": whichever of the n it is; those beside them don't count. */
    private static void walkBelow0() {
        int[] below = {-1, -2, Integer.MIN_VALUE, Integer.MIN_VALUE + 1, -128};
        for (int lane = 0; lane < 3; lane++) {
            for (int item : below) {
                boolean isBelow = lane != 0 || (byte) item < 0;
                for (int place = 0; place < 5; place++) {
                    ForceNet x = row(4, 1);
                    Check.read(x, "<0>Fa");
                    Made.fill(x, 0, lane, 0, 0, 0, 0, 0);
                    x.item(0, lane, place, item);
                    boolean isTaken = place > 0 && place < 4;
                    C.due("20 item " + item + " of LANE " + lane + " at " + place, x.walk(1, 0, lane, 1, 3), isTaken && isBelow ? NOT : 3);
                }
            }
        }
        E.refused("20 a byte of 200 is below 0", Made::rich, NOT, (x, n) -> x.walk(0, 0, 0, 2, 2));
    }

    /** "the STATE at the end of n steps from one on": of 0 steps that STATE itself. */
    private static void walkOfNoSteps() {
        ForceNet x = row(4, 1);
        Check.read(x, "<0>Fa");
        x.sheet(0, 0, 0);
        for (int s = 0; s < 4; s++) {
            C.due("20 no steps from " + s, x.walk(s, 0, 0, 0, 0), s);
            C.due("21 the first", x.walked(0), s);
            C.due("21 no other", x.walked(1), BAD);
        }
    }

    /** 40 steps, and all 41 STATES of them are kept. */
    private static void walkOfMostSteps() {
        ForceNet x = Made.plain(12, 1);
        for (int s = 0; s < 12; s++) {
            x.step(s, 0, (s + 5) % 12);
        }
        Check.read(x, "<>Fa");
        x.sheet(3, 2, 81);
        C.due("20 40 steps", x.walk(1, 3, 2, 41, 40), (1 + 200) % 12);
        for (int k = 0; k <= 40; k++) {
            C.due("21 behind " + k + " steps", x.walked(k), (1 + 5 * k) % 12);
        }
        C.due("21 behind 41 steps", x.walked(41), BAD);
        C.due("20 40 items aren't there from 42 on", x.walk(1, 3, 2, 42, 40), ForceNet.INDEX);
    }

    /** "each from 0 on, modulo how many there are" */
    private static void walkModulo() {
        ForceNet x = Made.plain(12, 3);
        x.moves(0, 0, 3);
        x.moves(0, 1, 2);
        x.moves(0, 2, 3);
        // The others' JOINT MOVE is PLAYER 0's MOVE by 3 and PLAYER 2's; PLAYER 1 takes 0.
        for (int theirs = 0; theirs < 9; theirs++) {
            x.step(0, theirs / 3 * 6 + theirs % 3, 1 + theirs);
        }
        Check.read(x, "<1>F!T");
        for (int lane = 0; lane < 3; lane++) {
            x.sheet(0, lane, 1);
            for (int item : new int[] {0, 1, 8, 9, 10, 17, 18, 27, 126, 127, 128, 255, 256, 65535, Integer.MAX_VALUE, Integer.MAX_VALUE - 1}) {
                int kept = lane == 0 ? (byte) item : item;
                x.item(0, lane, 0, item);
                C.due("20 item " + item + " of LANE " + lane, x.walk(0, 0, lane, 0, 1), kept < 0 ? NOT : 1 + kept % 9);
            }
        }
        // A GROUP of all: nobody else, one JOINT MOVE, so any item is the same.
        ForceNet y = row(4, 2);
        Check.read(y, "<01>Fa");
        Made.fill(y, 0, 1, Integer.MAX_VALUE, 7, 0);
        C.due("20 modulo 1", y.walk(0, 0, 1, 0, 3), 3);
    }

    /** "the GROUP does its PLAN (0, where there is none)": where THE FORM does not HOLD, and in ROUND 0. */
    private static void walkWithoutAPlan() {
        // MOVE 0 leads from 0 to 1, MOVE 1 to 2; 1 leads on to 0, and 2 to 0. a: 2.
        ForceNet x = Made.plain(3, 1);
        for (int s = 0; s < 3; s++) {
            x.moves(s, 0, 2);
        }
        int[] to = {1, 2, 0, 1, 0, 2};
        for (int j = 0; j < 6; j++) {
            x.step(j / 2, j % 2, to[j]);
        }
        x.letters(2, 1);
        x.sheet(0, 0, 4);
        String[] text = {"<0>Fa", "<0>F!T", "<0>Ga", "<0>Ga", "<0>(TUa)", "<0>Xa"};
        int[][] due = {{0, 2, 0, 2, 0}, {0, 1, 0, 1, 0}, {0, 1, 0, 1, 0}, {2, 2, 2, 2, 2}, {2, 0, 2, 0, 2}, {1, 0, 2, 2, 2}};
        for (int i = 0; i < text.length; i++) {
            Check.read(x, text[i]);
            C.due("20 the end by " + text[i], x.walk(due[i][0], 0, 0, 0, 4), due[i][4]);
            for (int k = 0; k < 5; k++) {
                C.due("21 by " + text[i] + " " + k, x.walked(k), due[i][k]);
            }
        }
    }

    /** "(0: the first). BAD": no walk() was told, or it has no such step. */
    private static void walkedRange() {
        E.range("21 no walk", ForceNet::new, 0, -1, BAD, (x, k) -> x.walked(k));
        E.range("21 k of three steps", Made::rich, 0, 3, BAD, (x, k) -> x.walked(k));
        E.range("21 k of no steps", PlanEdgeTest::withoutSteps, 0, 0, BAD, (x, k) -> x.walked(k));
    }

    private static ForceNet withoutSteps() {
        ForceNet x = Made.rich();
        x.walk(2, 1, 1, 0, 0);
        return x;
    }

    /** "the latest walk() that was told": a refused one is none; a shorter one takes the place of a longer one. */
    private static void walkedOfTheLatest() {
        ForceNet x = row(4, 1);
        Check.read(x, "<0>Fa");
        x.sheet(0, 0, 3);
        C.due("20 three steps", x.walk(0, 0, 0, 0, 3), 3);
        C.due("20 a refused one", x.walk(4, 0, 0, 0, 1), BAD);
        C.due("20 a refused one", x.walk(0, 1, 0, 0, 1), ForceNet.NULL);
        C.due("20 a refused one", x.walk(0, 0, 1, 0, 1), ForceNet.CAST);
        C.due("20 a refused one", x.walk(0, 0, 0, 3, 1), ForceNet.INDEX);
        x.item(0, 0, 1, -1);
        C.due("20 a refused one", x.walk(2, 0, 0, 0, 2), NOT);
        for (int k = 0; k < 4; k++) {
            C.due("21 the one that was told", x.walked(k), k);
        }
        C.due("20 a shorter one", x.walk(2, 0, 0, 2, 1), 3);
        C.due("21 its first", x.walked(0), 2);
        C.due("21 its last", x.walked(1), 3);
        C.due("21 nothing of the longer one", x.walked(2), BAD);
    }

    /** What was walked stays, whatever becomes of the net, but by net(). */
    private static void walkedStays() {
        ForceNet x = row(4, 1);
        Check.read(x, "<0>Fa");
        x.sheet(0, 0, 3);
        x.walk(0, 0, 0, 0, 3);
        x.step(0, 0, 0);
        x.moves(1, 0, 2);
        x.letters(3, 0);
        Check.read(x, "T");
        x.drop(0);
        for (int k = 0; k < 4; k++) {
            C.due("21 stays", x.walked(k), k);
        }
        C.due("2 a refused net()", x.net(13, 1), BAD);
        C.due("21 stays by it", x.walked(3), 3);
        x.net(4, 1);
        C.due("21 no walk() by net()", x.walked(0), BAD);
    }
}
