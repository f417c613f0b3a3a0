/** Promises 24 to 32: CHOSEN MOVES, lots, goals, helpers, counts. */
final class LotTest {
    private static final Check C = new Check("lot");

    public static void main(String[] args) {
        choose();
        lot();
        chance();
        longChance();
        goal();
        content();
        stable();
        settle();
        helpers();
        count();
        C.end();
    }

    private static void choose() {
        ForceNet x = new ForceNet();
        x.moves(1, 1, 3);
        C.due("24 choose", x.choose(1, 1, 2), 0);
        C.due("24 which was", x.choose(1, 1, 1), 2);
        C.due("24 of the other", x.choose(0, 1, 0), 0);
        int[][] wrong = {{2, 1, 0}, {-1, 1, 0}, {1, 4, 0}, {1, -1, 0}, {1, 1, 3}, {1, 1, -1}, {0, 1, 1}};
        for (int[] w : wrong) {
            C.due("24 BAD", x.choose(w[0], w[1], w[2]), ForceNet.BAD);
        }
        C.due("24 stays", x.choose(1, 1, 0), 1);
    }

    private static void lot() {
        ForceNet x = new ForceNet();
        C.due("25 lot", x.lot(1), -1);
        C.due("25 which it was", x.lot(0), 1);
        C.due("25 none", x.lot(-1), 0);
        C.due("25 BAD", x.lot(2), -11);
        C.due("25 BAD", x.lot(-2), -11);
        C.due("25 BAD", x.lot(Integer.MAX_VALUE), -11);
        C.due("25 stays", x.lot(1), -1);
    }

    private static void chances(ForceNet x, String what, long... due) {
        for (int s = 0; s < due.length / 2; s++) {
            C.due("26 " + what + " above in " + s, x.chance(s, 0), due[2 * s]);
            C.due("26 " + what + " below in " + s, x.chance(s, 1), due[2 * s + 1]);
        }
    }

    private static void chance() {
        // 0: three MOVES of PLAYER 0: to 1, to 2, to stay. 1: two MOVES: to 0, to 3. a: 3.
        ForceNet x = new ForceNet();
        x.moves(0, 0, 3);
        x.step(0, 0, 1);
        x.step(0, 1, 2);
        x.moves(1, 0, 2);
        x.step(1, 0, 0);
        x.step(1, 1, 3);
        x.letters(3, 1);
        Check.read(x, "a");
        chances(x, "by chosen", 0, 1, 0, 1, 0, 1, 1, 1);
        x.choose(0, 1, 1);
        chances(x, "by chosen", 1, 1, 1, 1, 0, 1, 1, 1);
        x.lot(0);
        chances(x, "by lot", 1, 3, 2, 3, 0, 1, 1, 1);
        x.lot(1);
        chances(x, "by a lot of one move", 1, 1, 1, 1, 0, 1, 1, 1);
        x.lot(0);
        Check.read(x, "<>Xa");
        chances(x, "of a law", 1, 3, 2, 3, 0, 1, 1, 1);
        Check.read(x, "T");
        chances(x, "of T", 1, 1, 1, 1, 1, 1, 1, 1);
        Check.read(x, "!T");
        chances(x, "of none", 0, 1, 0, 1, 0, 1, 0, 1);
        Check.read(x, "(a|b)");
        x.letters(0, 2);
        chances(x, "the state itself counts", 1, 1, 1, 1, 0, 1, 1, 1);
        C.due("26 BAD", x.chance(4, 0), ForceNet.BAD);
        C.due("26 BAD", x.chance(-1, 0), ForceNet.BAD);
        C.due("26 BAD", x.chance(0, 2), ForceNet.BAD);
        C.due("26 BAD", x.chance(0, -1), ForceNet.BAD);
    }

    /** Eleven lucky throws of one in three in a row: each miss goes back to the first or to where all is lost. */
    private static void longChance() {
        ForceNet x = new ForceNet();
        x.net(12, 1);
        long power = 1;
        for (int s = 0; s < 11; s++) {
            x.moves(s, 0, 3);
            x.step(s, 0, s + 1);
            power *= 3;
        }
        x.letters(11, 1);
        x.lot(0);
        Check.read(x, "a");
        C.due("26 staying above", x.chance(0, 0), 1);
        C.due("26 staying below", x.chance(0, 1), 1);
        for (int s = 0; s < 11; s++) {
            x.step(s, 1, 0);
            x.step(s, 2, 0);
        }
        C.due("26 going back above", x.chance(0, 0), 1);
        C.due("26 going back below", x.chance(7, 1), 1);
        x.letters(11, 0);
        for (int s = 0; s < 10; s++) {
            x.step(s, 1, 11);
            x.step(s, 2, 11);
        }
        power /= 3;
        x.letters(10, 1);
        x.lot(0);
        Check.read(x, "a");
        C.due("26 long above", x.chance(0, 0), 1);
        C.due("26 long below", x.chance(0, 1), power);
        for (int s = 0; s < 10; s++) {
            x.step(s, 2, 0);
        }
        // p(s) = (p(s + 1) + p(0)) / 3, and p(10) = 1: so p(0) * (3 ^ 10 - (1 + 3 + .. + 3 ^ 9)) = 1.
        long geometric = (power - 1) / 2;
        C.due("26 back above", x.chance(0, 0), 1);
        C.due("26 back below", x.chance(0, 1), power - geometric);
        for (int s = 0; s < 10; s++) {
            x.step(s, 1, 0);
        }
        C.due("26 sure above", x.chance(3, 0), 1);
        C.due("26 sure below", x.chance(3, 1), 1);
    }

    private static void goal() {
        ForceNet x = new ForceNet();
        C.due("27 goal", x.goal(1, 9), 0);
        C.due("27 what it was", x.goal(1, 15), 9);
        C.due("27 of the other", x.goal(0, 0), 0);
        C.due("27 BAD", x.goal(2, 0), ForceNet.BAD);
        C.due("27 BAD", x.goal(-1, 0), ForceNet.BAD);
        C.due("27 BAD", x.goal(0, 16), ForceNet.BAD);
        C.due("27 BAD", x.goal(0, -1), ForceNet.BAD);
        C.due("27 stays", x.goal(1, 0), 15);
    }

    /** Unlike MOVES in 0 lead to 1, alike ones to 2; PLAYER 0 wants 1, PLAYER 1 wants 2. */
    private static ForceNet pennies() {
        ForceNet x = new ForceNet();
        x.net(3, 2);
        x.moves(0, 0, 2);
        x.moves(0, 1, 2);
        x.step(0, 0, 2);
        x.step(0, 1, 1);
        x.step(0, 2, 1);
        x.step(0, 3, 2);
        x.goal(0, 2);
        x.goal(1, 4);
        return x;
    }

    private static void content() {
        ForceNet x = pennies();
        C.due("28 alike", x.content(0), 2);
        x.choose(0, 0, 1);
        C.due("28 unlike", x.content(0), 1);
        x.lot(1);
        C.due("28 chosen of the lot, too", x.content(0), 1);
        C.due("28 in 1", x.content(1), 1);
        C.due("28 in 2", x.content(2), 2);
        x.goal(1, 5);
        C.due("28 the first counts", x.content(0), 3);
        C.due("28 behind the first", x.content(1), 1);
        C.due("28 BAD", x.content(3), ForceNet.BAD);
        C.due("28 BAD", x.content(-1), ForceNet.BAD);
        ForceNet y = new ForceNet();
        y.net(12, 1);
        for (int s = 0; s < 12; s++) {
            y.step(s, 0, (s + 1) % 12);
        }
        y.goal(0, 1);
        C.due("28 the longest row", y.content(1), 1);
    }

    private static void stable() {
        ForceNet x = pennies();
        C.due("29 one of them would change", x.stable(0), 0);
        C.due("29 nobody can", x.stable(1), 1);
        C.due("29 nobody can", x.stable(2), 1);
        x.goal(0, 4);
        C.due("29 both content", x.stable(0), 1);
        x.goal(0, 0);
        C.due("29 who wants nothing", x.stable(0), 1);
        x.goal(1, 2);
        C.due("29 the other would", x.stable(0), 0);
        x.moves(0, 1, 1);
        C.due("29 the other can't", x.stable(0), 1);
        C.due("29 BAD", x.stable(3), ForceNet.BAD);
        C.due("29 BAD", x.stable(-1), ForceNet.BAD);
        // A change in two STATES at once.
        ForceNet y = new ForceNet();
        y.moves(0, 1, 2);
        y.moves(1, 1, 2);
        y.step(0, 1, 1);
        y.step(1, 1, 2);
        y.goal(1, 4);
        C.due("29 two changes", y.stable(0), 0);
    }

    private static void settle() {
        ForceNet x = pennies();
        x.choose(0, 0, 1);
        C.due("30 NONE", x.settle(0), ForceNet.NONE);
        C.due("30 NONE changes nothing", x.choose(0, 0, 1), 1);
        C.due("30 the first", x.settle(2), 2);
        C.due("30 chosen then", x.choose(0, 0, 0), 0);
        x.goal(1, 2);
        C.due("30 both the same", x.settle(0), 3);
        C.due("30 PLAYER 0 first", x.choose(0, 0, 0), 0);
        C.due("30 PLAYER 1 then", x.choose(1, 0, 1), 1);
        C.due("30 BAD", x.settle(3), ForceNet.BAD);
        C.due("30 BAD", x.settle(-1), ForceNet.BAD);
        // 19683 PLANS are gone through, 26244 are too many.
        ForceNet y = new ForceNet();
        y.net(11, 2);
        for (int s = 0; s < 9; s++) {
            y.moves(s, 0, 3);
        }
        y.step(8, 2, 10);
        y.goal(0, 1024);
        C.due("30 19683 PLANS", y.settle(8), 1);
        C.due("30 the last move", y.choose(0, 8, 2), 2);
        C.due("30 others 0", y.choose(0, 7, 0), 0);
        y.moves(0, 0, 2);
        y.moves(0, 1, 2);
        y.moves(1, 0, 1);
        y.moves(1, 1, 2);
        C.due("32 17496 PLANS", y.count(3), 17496);
        C.due("30 17496 PLANS", y.settle(8), 1);
        y.moves(9, 1, 2);
        C.due("30 SPENT", y.settle(8), ForceNet.SPENT);
        C.due("30 BAD ahead of SPENT", y.settle(11), ForceNet.BAD);
    }

    private static void helpers() {
        // Three PLAYERS with two MOVES in 0; to 1 if all take 1, to 2 if 0 and 1 do, else to stay.
        ForceNet x = new ForceNet();
        x.net(4, 4);
        for (int p = 0; p < 3; p++) {
            x.moves(0, p, 2);
        }
        x.step(0, 7, 1);
        x.step(0, 6, 2);
        x.letters(1, 1);
        x.letters(2, 2);
        String[] text = {"<>Xa", "<0>Xa", "<012>Xa", "<3>Xa", "<>X(a|b)", "<0>X(a|b)", "<2>X(a|b)", "<3>Xb", "<>Xc", "<0123>Xc", "<>G!a", "<2>F<01>Xa"};
        int[] due = {7, 6, 0, 7, 3, 2, 3, 7, -4, -4, 1, 3};
        for (int i = 0; i < text.length; i++) {
            Check.read(x, text[i]);
            C.due("31 " + text[i], x.helpers(0), due[i]);
        }
        // Of as few, the least PLAYER first: 0 and 3 ahead of 1 and 2.
        ForceNet y = new ForceNet();
        y.net(2, 4);
        for (int p = 0; p < 4; p++) {
            y.moves(0, p, 2);
        }
        for (int j = 0; j < 16; j++) {
            y.step(0, j, (j & 9) == 9 || (j & 6) == 6 ? 1 : 0);
        }
        y.letters(1, 1);
        Check.read(y, "<>Xa");
        C.due("31 the first by numbers", y.helpers(0), 9);
        C.due("31 holds", y.helpers(1), 0);
        Check.read(y, "<0>Fa");
        C.due("31 one more", y.helpers(0), 8);
        C.due("31 rounds stay", y.round(0), ForceNet.NONE);
        C.due("31 holds stays", y.holds(), 2);
        C.due("31 BAD", y.helpers(2), ForceNet.BAD);
        C.due("31 BAD", y.helpers(-1), ForceNet.BAD);
        Check.read(y, "!<0>Xa");
        C.due("31 NOT", y.helpers(0), ForceNet.NOT);
        C.due("31 BAD ahead of NOT", y.helpers(2), ForceNet.BAD);
        firstHelpers();
    }

    /** Any sets of as many PLAYERS can: of these the first is due, by each list below. */
    private static void firstHelpers() {
        int[][] orders = {{1, 2, 4, 8}, {3, 5, 9, 6, 10, 12}, {7, 11, 13, 14}};
        for (int[] order : orders) {
            for (int some = 1; some < 1 << order.length; some++) {
                ForceNet x = new ForceNet();
                x.net(2, 4);
                for (int p = 0; p < 4; p++) {
                    x.moves(0, p, 2);
                }
                for (int j = 0; j < 16; j++) {
                    x.step(0, j, hasSome(order, some, Integer.reverse(j) >>> 28) ? 1 : 0);
                }
                x.letters(1, 1);
                Check.read(x, "<>Xa");
                C.due("31 the first of as few " + some, x.helpers(0), order[Integer.numberOfTrailingZeros(some)]);
            }
        }
    }

    private static boolean hasSome(int[] sets, int some, int players) {
        for (int i = 0; i < sets.length; i++) {
            if ((some >> i & 1) != 0 && (sets[i] & ~players) == 0) {
                return true;
            }
        }
        return false;
    }

    private static void count() {
        ForceNet x = new ForceNet();
        x.net(12, 4);
        C.due("32 STATES", x.count(0), 12);
        C.due("32 PLAYERS", x.count(1), 4);
        Check.read(x, "<0>(aU!b)");
        C.due("32 parts", x.count(2), 4);
        C.due("32 PLANS", x.count(3), 1);
        long all = 1;
        for (int s = 0; s < 12; s++) {
            for (int p = 0; p < 4; p++) {
                x.moves(s, p, 3);
                all = Math.min(all * 3, 2000000000L);
                C.due("32 PLANS", x.count(3), all);
            }
        }
        for (int s = 0; s < 8; s++) {
            for (int p = 0; p < 4; p++) {
                x.moves(s, p, s == 0 && p < 3 ? 2 : 1);
            }
        }
        C.due("32 344373768", x.count(3), 344373768);
        C.due("32 BAD", x.count(4), ForceNet.BAD);
        C.due("32 BAD", x.count(-1), ForceNet.BAD);
    }
}
