/** Promises 22 and 23: ROWS OF MOVES by HEAPS. */
final class BlindTest {
    private static final Check C = new Check("blind");

    public static void main(String[] args) {
        oneHeap();
        fit();
        laws();
        order();
        spent();
        last();
        wrongOnes();
        C.end();
    }

    /** STATES 0 and 1: PLAYER 0 has to take MOVE 0 in the one, 1 in the other, to come to 2; else 3. 2 and 3 stay. */
    private static ForceNet fork() {
        ForceNet x = new ForceNet();
        x.moves(0, 0, 2);
        x.moves(1, 0, 2);
        x.step(0, 0, 2);
        x.step(0, 1, 3);
        x.step(1, 0, 3);
        x.step(1, 1, 2);
        x.letters(2, 1);
        Check.read(x, "<0>Fa");
        return x;
    }

    private static void oneHeap() {
        ForceNet x = fork();
        C.due("22 seeing", x.blind(0), 1);
        C.due("22 seeing", x.blind(1), 1);
        C.due("23 seeing", x.blindMove(0, 0, 0), 0);
        C.due("23 seeing: for all, the first of others", x.blindMove(0, 0, 1), 0);
        C.due("23 seeing", x.blindMove(1, 0, 1), 1);
        C.due("22 lost", x.blind(3), 0);
        C.due("23 lost", x.blindMove(3, 0, 0), ForceNet.NONE);
        x.heap(0, 1, 0);
        C.due("22 not told apart", x.blind(0), 0);
        C.due("22 not told apart", x.blind(1), 0);
        C.due("22 at home", x.blind(2), 1);
        C.due("23 no state in it", x.blindMove(2, 0, 1), ForceNet.BAD);
        C.due("13 yet it holds", x.holds(), 7);
        x.heap(0, 0, 11);
        x.heap(0, 1, 11);
        C.due("23 heap 11", x.blindMove(2, 0, 11), 0);
        // Of unlike m the least: the MOVE that 1 needs is not there.
        x.heap(0, 1, 1);
        x.heap(0, 3, 1);
        C.due("22 the least m", x.blind(1), 0);
        x.moves(3, 0, 2);
        C.due("22 FIT with a lost one", x.blind(1), 0);
        x.letters(3, 1);
        C.due("22 all won", x.blind(1), 1);
    }

    /** PLAYER 1, of the GROUP too, sees less: what is FIT for one of them counts for both. */
    private static void fit() {
        ForceNet x = fork();
        x.heap(1, 3, 0);
        C.due("22 the other is not of the group", x.blind(0), 1);
        Check.read(x, "<01>Fa");
        C.due("22 the other sees less", x.blind(0), 0);
        C.due("22 elsewhere", x.blind(1), 1);
        Check.read(x, "<>Fa");
        C.due("22 nobody", x.blind(0), 0);
        C.due("22 nobody, at home", x.blind(2), 1);
        C.due("23 nobody", x.blindMove(2, 0, 0), ForceNet.BAD);
        // Three in a row of heaps: 0 with 1 by PLAYER 0, 1 with 3 by PLAYER 1. 3 is not FIT for 0.
        ForceNet y = new ForceNet();
        y.heap(0, 1, 0);
        y.heap(1, 3, 1);
        y.letters(0, 1);
        y.letters(1, 1);
        Check.read(y, "<01>Ga");
        C.due("22 FIT by one step", y.blind(0), 1);
        C.due("22 FIT by another", y.blind(1), 0);
    }

    private static void laws() {
        // 0 goes to 1 or stays; 1 goes, as PLAYER 1 likes, to 0 or 2; 2 to 0; 3 stays. a: 1, b: 2.
        ForceNet x = new ForceNet();
        x.moves(0, 0, 2);
        x.moves(1, 1, 2);
        x.step(0, 1, 1);
        x.step(1, 0, 0);
        x.step(1, 1, 2);
        x.step(2, 0, 0);
        x.letters(1, 1);
        x.letters(2, 2);
        String[] text = {"<0>Xa", "<0>X!a", "<0>Ga", "<0>G!a", "<0>G!b", "<0>Fa", "<0>Fb", "<0>(!bUa)", "<0>(bUa)", "<0>Ia", "<0>I!a", "<0>Ib", "<01>Ib", "<0>X(a|b)"};
        int[][] due = {{1, 0, 0, 0}, {1, 1, 1, 1}, {0, 0, 0, 0}, {1, 0, 1, 1}, {1, 0, 0, 1}, {1, 1, 1, 0}, {0, 0, 1, 0}, {1, 1, 0, 0},
            {0, 1, 0, 0}, {1, 1, 1, 0}, {1, 1, 1, 1}, {0, 0, 0, 0}, {1, 1, 1, 0}, {1, 0, 0, 0}};
        int[] move = {1, 0, -4, 0, 0, 1, -4, 1, -4, 1, 0, -4, 1, 1};
        for (int i = 0; i < text.length; i++) {
            Check.read(x, text[i]);
            for (int s = 0; s < 4; s++) {
                C.due("22 " + text[i] + " in " + s, x.blind(s), due[i][s]);
            }
            C.due("23 " + text[i], x.blindMove(0, 0, 0), move[i]);
        }
    }

    private static void order() {
        // Both have two MOVES in 0 and 1; from 0 unlike MOVES lead to 2, so the least row is 0, 1.
        ForceNet x = new ForceNet();
        for (int s = 0; s < 2; s++) {
            x.moves(s, 0, 2);
            x.moves(s, 1, 2);
            x.step(s, 1, 2);
            x.step(s, 2, 2);
        }
        x.letters(2, 1);
        Check.read(x, "<01>Xa");
        C.due("23 PLAYER 0 first", x.blindMove(0, 0, 0), 0);
        C.due("23 PLAYER 1 then", x.blindMove(0, 1, 0), 1);
        C.due("23 other heaps by 0", x.blindMove(0, 0, 1), 0);
        // One heap, 5, for PLAYER 0; PLAYER 1 must take 1 in both then.
        x.heap(0, 0, 5);
        x.heap(0, 1, 5);
        C.due("23 one heap", x.blindMove(0, 0, 5), 0);
        C.due("23 heap 0 of PLAYER 1", x.blindMove(0, 1, 0), 1);
        C.due("23 heap 1 of PLAYER 1", x.blindMove(0, 1, 1), 1);
        // PLAYER 1 in 0 alone can't but take 0: so PLAYER 0 takes 1 in the heap, and PLAYER 1 takes 0 in 1.
        x.moves(0, 1, 1);
        x.step(0, 1, 2);
        C.due("23 by need", x.blindMove(0, 0, 5), 1);
        C.due("23 by need", x.blindMove(1, 1, 1), 0);
    }

    private static void spent() {
        ForceNet x = new ForceNet();
        x.net(12, 2);
        for (int s = 0; s < 12; s++) {
            x.moves(s, 0, 2);
        }
        Check.read(x, "<0>Fa");
        C.due("22 4096 rows", x.blind(0), 0);
        C.due("23 4096 rows", x.blindMove(0, 0, 0), ForceNet.NONE);
        C.due("22 lost from all", x.blind(11), 0);
        x.letters(11, 1);
        C.due("22 4096 rows", x.blind(11), 1);
        x.moves(0, 0, 3);
        C.due("22 6144 rows", x.blind(11), ForceNet.SPENT);
        C.due("23 6144 rows", x.blindMove(11, 0, 0), ForceNet.SPENT);
        C.due("23 BAD ahead of SPENT", x.blindMove(11, 1, 0), ForceNet.BAD);
        C.due("13 holds all the same", x.holds(), 1 << 11);
        x.heap(0, 0, 1);
        C.due("22 the least m in a heap: 2048 rows", x.blind(11), 1);
        Check.read(x, "<01>Fa");
        x.moves(5, 1, 2);
        C.due("22 4096 rows of two", x.blind(11), 1);
        x.moves(6, 1, 3);
        C.due("22 12288 rows of two", x.blind(11), ForceNet.SPENT);
        Check.read(x, "<1>Fa");
        C.due("22 6 rows of one", x.blind(11), 1);
        // 4374 = 2 * 3 ^ 7 rows do, and the last is gone through.
        x.net(12, 1);
        for (int s = 0; s < 8; s++) {
            x.moves(s, 0, s == 0 ? 2 : 3);
            x.step(s, s == 0 ? 1 : 2, s + 1);
        }
        x.letters(8, 1);
        Check.read(x, "<0>Fa");
        C.due("22 the last of 4374", x.blind(0), 1);
        C.due("23 the last of 4374", x.blindMove(0, 0, 7), 2);
        x.moves(0, 0, 3);
        C.due("22 6561 rows", x.blind(0), ForceNet.SPENT);
        // 5000 can't be met, 4860 = 3^5 * 20 neither; 3^4 * 2^5 * .. : 5184 is more.
        x.net(12, 1);
        for (int s = 0; s < 10; s++) {
            x.moves(s, 0, s < 4 ? 3 : 2);
        }
        Check.read(x, "<0>Ga");
        C.due("22 5184 rows", x.blind(0), ForceNet.SPENT);
    }

    /** The last PLAYER, the last HEAP, the last STATE. */
    private static void last() {
        ForceNet x = new ForceNet();
        x.net(12, 4);
        x.moves(11, 3, 3);
        x.step(11, 2, 4);
        x.letters(4, 1);
        Check.read(x, "<3>Fa");
        C.due("23 the last heap of the last", x.blindMove(11, 3, 11), 2);
        C.due("22 the last heap of the last", x.blind(11), 1);
        Check.read(x, "<0>Fa");
        C.due("22 not of the group", x.blind(11), 0);
        // A way through all twelve: in the one that is met last one stays, without a.
        ForceNet y = new ForceNet();
        y.net(12, 1);
        for (int s = 1; s < 12; s++) {
            y.step(s, 0, s - 1);
            y.letters(s, 1);
        }
        Check.read(y, "<0>Ia");
        C.due("22 stays at the end of the way", y.blind(11), 0);
        y.step(0, 0, 11);
        C.due("22 goes round", y.blind(11), 1);
        C.due("22 goes round", y.blind(0), 1);
        Check.read(y, "<0>F!a");
        C.due("22 the whole way", y.blind(11), 1);
        Check.read(y, "<0>Ga");
        C.due("22 not on the whole way", y.blind(11), 0);
    }

    private static void wrongOnes() {
        ForceNet x = fork();
        C.due("22 BAD", x.blind(-1), ForceNet.BAD);
        C.due("22 BAD", x.blind(4), ForceNet.BAD);
        int[][] wrong = {{-1, 0, 0}, {4, 0, 0}, {0, -1, 0}, {0, 2, 0}, {0, 0, -1}, {0, 0, 12}, {0, 1, 0}, {0, 0, 4}};
        for (int[] w : wrong) {
            C.due("23 BAD", x.blindMove(w[0], w[1], w[2]), ForceNet.BAD);
        }
        for (String text : new String[] {"T", "a", "!<0>Fa", "(<0>Fa&<0>Fa)", "(<0>Fa|a)"}) {
            Check.read(x, text);
            C.due("22 NOT " + text, x.blind(0), ForceNet.NOT);
            C.due("23 NOT " + text, x.blindMove(0, 0, 0), ForceNet.NOT);
            C.due("23 NOT ahead of the second BAD " + text, x.blindMove(0, 1, 11), ForceNet.NOT);
            C.due("22 BAD ahead of NOT " + text, x.blind(4), ForceNet.BAD);
            for (int[] w : new int[][] {{-1, 0, 0}, {4, 0, 0}, {0, -1, 0}, {0, 2, 0}, {0, 0, -1}, {0, 0, 12}}) {
                C.due("23 BAD ahead of NOT " + text, x.blindMove(w[0], w[1], w[2]), ForceNet.BAD);
            }
        }
    }
}
