/** Promises 16 to 21: ROUNDS, PLANS, ANSWERS, TOLLS, walks. */
final class PlanTest {
    private static final Check C = new Check("plan");

    public static void main(String[] args) {
        rounds();
        plans();
        answers();
        answersOfNoGroup();
        tolls();
        walks();
        wrongOnes();
        C.end();
    }

    /**
     * A ladder: in STATE 0 PLAYER 0 goes to 1 or 2, PLAYER 1 looks on; in 1 PLAYER 1 goes on to 2 or back to 0; 2 leads to
     * 3, which stays; 4 stays, too. Letter a: 3; b: 0 and 2; c: 4.
     */
    private static ForceNet ladder() {
        ForceNet x = new ForceNet();
        x.net(5, 2);
        x.moves(0, 0, 2);
        x.moves(0, 1, 2);
        x.step(0, 0, 1);
        x.step(0, 1, 1);
        x.step(0, 2, 2);
        x.step(0, 3, 2);
        x.moves(1, 1, 2);
        x.step(1, 0, 2);
        x.step(1, 1, 0);
        x.step(2, 0, 3);
        x.letters(3, 1);
        x.letters(0, 2);
        x.letters(2, 2);
        x.letters(4, 4);
        return x;
    }

    private static void each(String what, ForceNet x, String text, int... due) {
        Check.read(x, text);
        for (int s = 0; s < due.length; s++) {
            int got = what.equals("16") ? x.round(s) : what.equals("17") ? x.plan(s) : x.toll(s);
            C.due(what + " " + text + " in " + s, got, due[s]);
        }
    }

    private static void rounds() {
        ForceNet x = ladder();
        each("16", x, "<0>Fa", 2, 3, 1, 0, -4);
        each("16", x, "<1>Fa", 3, 2, 1, 0, -4);
        each("16", x, "<01>Fa", 2, 2, 1, 0, -4);
        each("16", x, "<>F(a|c)", -4, -4, 1, 0, 0);
        each("16", x, "<0>(bUa)", 2, -4, 1, 0, -4);
        each("16", x, "<0>(aUb)", 0, -4, 0, -4, -4);
        each("16", x, "<0>Ia", 2, 3, 1, 0, -4);
        each("16", x, "<0>Ib", -4, -4, -4, -4, -4);
        // Both can go round between 0 and 1 for ever; 2 is of b, but nobody comes to b from there again.
        each("16", x, "<01>Ib", 0, 1, -4, -4, -4);
        each("16", x, "<01>I!b", 1, 0, 1, 0, 0);
    }

    private static void plans() {
        ForceNet x = ladder();
        each("17", x, "<0>Fa", 1, 0, 0, -4, -4);
        each("17", x, "<1>Fa", 0, 0, 0, -4, -4);
        each("17", x, "<01>Fa", 2, 0, 0, -4, -4);
        each("17", x, "<0>(bUa)", 1, -4, 0, -4, -4);
        each("17", x, "<01>Ib", 0, 1, -4, -4, -4);
        each("17", x, "<0>Xb", 1, 0, -4, -4, -4);
        each("17", x, "<0>X!b", 0, -4, 0, 0, 0);
        each("17", x, "<0>G!a", -4, -4, -4, -4, 0);
        each("17", x, "<01>G!a", 0, 1, -4, -4, 0);
        each("17", x, "<01>G!c", 0, 0, 0, 0, -4);
        each("17", x, "<0>Ia", 1, 0, 0, 0, -4);
    }

    private static void answers() {
        ForceNet x = ladder();
        Check.read(x, "<0>(bUa)");
        C.due("18 in 0 to 1", x.answer(0, 0), 0);
        C.due("18 in 0 to 2", x.answer(0, 1), ForceNet.NONE);
        C.due("18 no third", x.answer(0, 2), ForceNet.BAD);
        C.due("18 both lead on", x.answer(1, 0), ForceNet.NONE);
        C.due("18 one of two, not of all", x.answer(1, 1), ForceNet.BAD);
        x.letters(2, 0);
        C.due("18 the first of them", x.answer(1, 0), 0);
        x.step(1, 0, 3);
        C.due("18 the second", x.answer(1, 0), 1);
        x.step(1, 0, 2);
        x.letters(2, 2);
        C.due("18 lost", x.answer(4, 0), 0);
        C.due("18 won", x.answer(3, 0), ForceNet.NONE);
        Check.read(x, "<0>X!b");
        C.due("18 X into f", x.answer(0, 0), ForceNet.NONE);
        C.due("18 X not into f", x.answer(0, 1), 0);
        C.due("18 X in 1", x.answer(1, 0), 0);
        Check.read(x, "<0>G!b");
        C.due("18 G where it does not hold", x.answer(1, 0), 0);
        Check.read(x, "<>G!a");
        x.moves(2, 0, 3);
        x.step(2, 0, 4);
        x.step(2, 1, 4);
        x.step(2, 2, 3);
        C.due("18 the least of three", x.answer(2, 0), 2);
        C.due("18 of none: one joint move", x.answer(2, 1), ForceNet.BAD);
    }

    /** No GROUP is another thing than the GROUP of none, which has the JOINT MOVE 0 alone. */
    private static void answersOfNoGroup() {
        ForceNet x = new ForceNet();
        C.due("18 a new object, move 0", x.answer(0, 0), ForceNet.NOT);
        C.due("18 a new object, move 1", x.answer(0, 1), ForceNet.NOT);
        C.due("18 a new object, no STATE", x.answer(4, 1), ForceNet.BAD);
        Check.read(x, "<>XT");
        C.due("18 the GROUP of none, move 0", x.answer(0, 0), ForceNet.NONE);
        C.due("18 the GROUP of none, move 1", x.answer(0, 1), ForceNet.BAD);
        C.due("18 the GROUP of none, move -1", x.answer(0, -1), ForceNet.BAD);
        Check.read(x, "!<>XT");
        C.due("18 a GROUP within", x.answer(0, 1), ForceNet.NOT);
        x.net(4, 2);
        C.due("18 behind net()", x.answer(0, 1), ForceNet.NOT);
    }

    private static void tolls() {
        ForceNet x = ladder();
        x.price(0, 0, 1, 9);
        x.price(0, 0, 0, 1);
        x.price(1, 0, 0, 2);
        x.price(2, 0, 0, 3);
        x.price(1, 1, 0, 5);
        each("19", x, "<0>Fa", 12, 14, 3, 0, -4);
        each("19", x, "<01>Fa", 11, 10, 3, 0, -4);
        each("19", x, "<1>Fa", 5, 5, 0, 0, -4);
        each("19", x, "<0>(bUa)", 12, -4, 3, 0, -4);
        each("19", x, "<0>F(a|b)", 0, 2, 0, 0, -4);
        // A longer way may be a cheaper one; a way for nothing that goes round leads nowhere.
        ForceNet y = new ForceNet();
        y.net(4, 1);
        y.moves(0, 0, 3);
        y.step(0, 0, 3);
        y.step(0, 1, 1);
        y.step(0, 2, 0);
        y.step(1, 0, 2);
        y.step(2, 0, 3);
        y.price(0, 0, 0, 9);
        y.price(0, 0, 1, 2);
        y.price(1, 0, 0, 2);
        y.price(2, 0, 0, 2);
        y.letters(3, 1);
        each("19", y, "<0>Fa", 6, 4, 2, 0);
        C.due("19 the round", y.round(0), 1);
        C.due("19 the plan", y.plan(0), 0);
        y.price(0, 0, 0, 5);
        C.due("19 cheaper at once", y.toll(0), 5);
    }

    private static void walks() {
        ForceNet x = ladder();
        Check.read(x, "<0>Fa");
        C.due("21 no walk", x.walked(0), ForceNet.BAD);
        C.due("20 NULL", x.walk(1, 2, 0, 0, 0), ForceNet.NULL);
        x.sheet(2, 1, 6);
        int[] items = {7, 1, 3, 0, 9, 2};
        for (int i = 0; i < 6; i++) {
            x.item(2, 1, i, items[i]);
        }
        C.due("20 walk", x.walk(1, 2, 1, 0, 4), 3);
        int[] due = {1, 0, 2, 3, 3};
        for (int k = 0; k < 5; k++) {
            C.due("21 walked " + k, x.walked(k), due[k]);
        }
        C.due("21 BAD", x.walked(5), ForceNet.BAD);
        C.due("21 BAD", x.walked(-1), ForceNet.BAD);
        C.due("20 CAST", x.walk(1, 2, 2, 9, 1), ForceNet.CAST);
        C.due("20 INDEX", x.walk(1, 2, 1, 7, 0), ForceNet.INDEX);
        C.due("20 INDEX", x.walk(1, 2, 1, -1, 0), ForceNet.INDEX);
        C.due("20 INDEX", x.walk(1, 2, 1, 3, 4), ForceNet.INDEX);
        C.due("20 INDEX", x.walk(1, 2, 1, Integer.MAX_VALUE, 40), ForceNet.INDEX);
        x.item(2, 1, 5, -1);
        C.due("20 NOT", x.walk(1, 2, 1, 3, 3), ForceNet.NOT);
        C.due("20 INDEX ahead of NOT", x.walk(1, 2, 1, 3, 9), ForceNet.INDEX);
        C.due("21 the walk stays", x.walked(4), 3);
        C.due("20 from one on", x.walk(1, 2, 1, 3, 2), 3);
        C.due("21 of the latest", x.walked(1), 2);
        C.due("21 of the latest", x.walked(3), ForceNet.BAD);
        C.due("20 no steps", x.walk(4, 2, 1, 6, 0), 4);
        C.due("21 no steps", x.walked(0), 4);
        C.due("21 no steps", x.walked(1), ForceNet.BAD);
        Check.read(x, "a");
        C.due("20 NOT of a group", x.walk(1, 2, 1, 0, 0), ForceNet.NOT);
        C.due("20 CAST ahead of NOT", x.walk(1, 2, 0, 0, 0), ForceNet.CAST);
        C.due("21 stays by form", x.walked(0), 4);
        lost();
    }

    /** Where there is no PLAN, JOINT MOVE 0 is made. */
    private static void lost() {
        ForceNet x = ladder();
        Check.read(x, "<1>F!T");
        x.sheet(0, 2, 81);
        for (int i = 0; i < 81; i++) {
            x.item(0, 2, i, i);
        }
        C.due("20 move 0", x.walk(0, 0, 2, 0, 3), 3);
        C.due("21 others by items", x.walked(1), 1);
        C.due("21 then move 0", x.walked(2), 2);
        C.due("20 the others' move 1", x.walk(0, 0, 2, 1, 1), 2);
        C.due("20 40 steps", x.walk(0, 0, 2, 41, 40), 3);
        C.due("21 step 40", x.walked(40), 3);
        C.due("21 step 41", x.walked(41), ForceNet.BAD);
        C.due("20 41 steps", x.walk(0, 0, 2, 0, 41), ForceNet.BAD);
        C.due("20 -1 steps", x.walk(0, 0, 2, 0, -1), ForceNet.BAD);
        C.due("20 in ROUND 0", atHome(x), 0);
    }

    private static int atHome(ForceNet x) {
        Check.read(x, "<0>Fb");
        x.item(0, 2, 0, 1);
        x.item(0, 2, 1, 1);
        return x.walk(0, 0, 2, 0, 2);
    }

    private static void wrongOnes() {
        ForceNet x = ladder();
        Check.read(x, "<0>Fa");
        for (int s : new int[] {-1, 5, Integer.MAX_VALUE, Integer.MIN_VALUE}) {
            C.due("16 BAD", x.round(s), ForceNet.BAD);
            C.due("17 BAD", x.plan(s), ForceNet.BAD);
            C.due("18 BAD", x.answer(s, 0), ForceNet.BAD);
            C.due("19 BAD", x.toll(s), ForceNet.BAD);
            C.due("20 BAD", x.walk(s, 0, 0, 0, 0), ForceNet.BAD);
        }
        C.due("18 BAD move", x.answer(0, -1), ForceNet.BAD);
        C.due("18 BAD move", x.answer(0, 2), ForceNet.BAD);
        C.due("18 BAD move", x.answer(1, 1), ForceNet.BAD);
        C.due("20 BAD sheet", x.walk(0, 4, 0, 0, 0), ForceNet.BAD);
        C.due("20 BAD sheet", x.walk(0, -1, 0, 0, 0), ForceNet.BAD);
        C.due("20 BAD lane", x.walk(0, 0, 3, 0, 0), ForceNet.BAD);
        C.due("20 BAD lane", x.walk(0, 0, -1, 0, 0), ForceNet.BAD);
        String[] text = {"T", "a", "!<0>Fa", "(<0>Fa&T)", "(<0>Fa|T)", "<0>Xa", "<0>Ga", "<0>Ia", "<0>Fa", "<0>(TUa)"};
        for (int i = 0; i < text.length; i++) {
            Check.read(x, text[i]);
            C.due("16 NOT " + text[i], x.round(4), i < 7 ? ForceNet.NOT : ForceNet.NONE);
            C.due("17 NOT " + text[i], x.plan(4), i < 5 ? ForceNet.NOT : ForceNet.NONE);
            C.due("18 NOT " + text[i], x.answer(4, 0), i < 5 ? ForceNet.NOT : 0);
            for (int move : new int[] {-1, 2, 80, Integer.MAX_VALUE, Integer.MIN_VALUE}) {
                C.due("18 a move of no GROUP " + text[i] + " " + move, x.answer(0, move), i < 5 ? ForceNet.NOT : ForceNet.BAD);
                C.due("18 BAD ahead of NOT " + text[i] + " " + move, x.answer(5, move), ForceNet.BAD);
            }
            C.due("19 NOT " + text[i], x.toll(4), i < 8 ? ForceNet.NOT : ForceNet.NONE);
            C.due("BAD ahead of NOT " + text[i], x.round(5) + x.plan(5) + x.answer(5, 0) + x.toll(5), 4 * ForceNet.BAD);
        }
    }
}
