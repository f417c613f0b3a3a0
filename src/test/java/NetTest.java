/** Promises 1 to 10: the net. */
final class NetTest {
    private static final Check C = new Check("net");

    public static void main(String[] args) {
        fresh();
        net();
        moves();
        joint();
        step();
        letters();
        heap();
        price();
        steps();
        C.end();
    }

    private static void fresh() {
        ForceNet x = new ForceNet();
        C.due("1 STATES", x.count(0), 4);
        C.due("1 PLAYERS", x.count(1), 2);
        C.due("1 parts", x.count(2), 1);
        C.due("1 holds", x.holds(), 15);
        C.due("1 walked", x.walked(0), ForceNet.BAD);
        C.due("1 lot", x.lot(-1), -1);
        C.due("1 tape", x.type('a', 1), 1);
        for (int s = 0; s < 4; s++) {
            C.due("1 joint", x.joint(s, 3), 1);
            C.due("1 leads", x.leads(s, 0), s);
            C.due("1 letters", x.letters(s, 0), 0);
            C.due("1 drop", x.drop(s), ForceNet.NULL);
            for (int p = 0; p < 2; p++) {
                C.due("1 heap", x.heap(p, s, s), s);
                C.due("1 price", x.price(s, p, 0, 0), 0);
                C.due("1 choose", x.choose(p, s, 0), 0);
                C.due("1 goal", x.goal(p, 0), 0);
            }
        }
    }

    private static void net() {
        ForceNet x = new ForceNet();
        int[][] wrong = {{1, 2}, {13, 2}, {0, 2}, {-1, 2}, {4, 0}, {4, 5}, {4, -1}, {Integer.MAX_VALUE, 1}, {Integer.MIN_VALUE, 1}};
        for (int[] w : wrong) {
            C.due("2 net BAD", x.net(w[0], w[1]), ForceNet.BAD);
        }
        C.due("2 unchanged", x.count(0) * 10 + x.count(1), 42);
        for (int[] right : new int[][] {{2, 1}, {12, 4}, {2, 4}, {12, 1}}) {
            C.due("2 net", x.net(right[0], right[1]), 1);
            C.due("2 STATES", x.count(0), right[0]);
            C.due("2 PLAYERS", x.count(1), right[1]);
            C.due("2 holds", x.holds(), (1 << right[0]) - 1);
            C.due("2 the last player", x.moves(0, right[1] - 1, 1), 1);
            C.due("2 no such player", x.moves(0, right[1], 1), ForceNet.BAD);
            C.due("2 no such state", x.moves(right[0], 0, 1), ForceNet.BAD);
        }
        clearing();
        ForceNet x2 = new ForceNet();
        Check.read(x2, "<>XT");
        C.due("2 few STATES", x2.holds(), 15);
        x2.net(12, 2);
        Check.read(x2, "<>XT");
        C.due("2 more STATES", x2.holds(), 4095);
    }

    private static void clearing() {
        ForceNet x = new ForceNet();
        x.moves(1, 0, 3);
        x.step(1, 2, 3);
        x.price(1, 0, 2, 7);
        x.choose(0, 1, 2);
        x.letters(1, 255);
        x.heap(1, 1, 9);
        x.lot(1);
        x.goal(0, 5);
        x.sheet(2, 0, 5);
        Check.read(x, "<0>Xa");
        x.walk(1, 2, 0, 0, 3);
        x.type('T', 1);
        C.due("2 walked ahead", x.walked(3) >= 0 ? 1 : 0, 1);
        C.due("2 net", x.net(4, 2), 1);
        C.due("2 THE FORM", x.count(2), 1);
        C.due("2 THE FORM is T", x.holds(), 15);
        C.due("2 no law", x.plan(0), ForceNet.NOT);
        C.due("2 m", x.joint(1, 3), 1);
        C.due("2 leads", x.leads(1, 0), 1);
        C.due("2 letters", x.letters(1, 0), 0);
        C.due("2 heap", x.heap(1, 1, 1), 1);
        C.due("2 lot", x.lot(-1), -1);
        C.due("2 goal", x.goal(0, 0), 0);
        C.due("2 walked", x.walked(0), ForceNet.BAD);
        C.due("2 m again", x.moves(1, 0, 3), 1);
        C.due("2 leads again", x.leads(1, 2), 1);
        C.due("2 price again", x.price(1, 0, 2, 0), 0);
        C.due("2 choose again", x.choose(0, 1, 0), 0);
        C.due("2 sheets stay", x.drop(2), 5);
        C.due("2 the tape stays", x.type('a', 1), 2);
    }

    private static void moves() {
        ForceNet x = new ForceNet();
        int[][] wrong = {{-1, 0, 1}, {4, 0, 1}, {0, -1, 1}, {0, 2, 1}, {0, 0, 0}, {0, 0, 4}, {0, 0, -1}};
        for (int[] w : wrong) {
            C.due("3 moves BAD", x.moves(w[0], w[1], w[2]), ForceNet.BAD);
        }
        C.due("3 moves", x.moves(2, 0, 3), 1);
        C.due("3 moves was", x.moves(2, 0, 2), 3);
        x.moves(2, 1, 2);
        x.moves(1, 1, 2);
        x.step(2, 3, 0);
        x.step(1, 1, 0);
        x.price(2, 0, 1, 9);
        x.price(2, 1, 1, 8);
        x.choose(0, 2, 1);
        x.choose(1, 2, 1);
        x.letters(2, 5);
        x.heap(0, 2, 7);
        C.due("3 BAD changes nothing", x.moves(2, 1, 4), ForceNet.BAD);
        C.due("3 leads still", x.leads(2, 3), 0);
        C.due("3 the same m", x.moves(2, 1, 2), 2);
        C.due("3 lead back", x.leads(2, 3), 2);
        C.due("3 prices of all", x.price(2, 0, 1, 0), 0);
        C.due("3 prices of all", x.price(2, 1, 1, 0), 0);
        C.due("3 chosen of all", x.choose(0, 2, 0), 0);
        C.due("3 chosen of all", x.choose(1, 2, 0), 0);
        C.due("3 letters stay", x.letters(2, 0), 5);
        C.due("3 heaps stay", x.heap(0, 2, 2), 7);
        C.due("3 other states stay", x.leads(1, 1), 0);
    }

    private static void joint() {
        ForceNet x = new ForceNet();
        x.net(3, 3);
        x.moves(1, 0, 2);
        x.moves(1, 1, 3);
        x.moves(1, 2, 3);
        int[] due = {1, 2, 3, 6, 3, 6, 9, 18};
        for (int group = 0; group < 8; group++) {
            C.due("4 joint " + group, x.joint(1, group), due[group]);
        }
        C.due("4 elsewhere", x.joint(0, 7), 1);
        C.due("4 BAD state", x.joint(3, 0), ForceNet.BAD);
        C.due("4 BAD state", x.joint(-1, 0), ForceNet.BAD);
        C.due("4 BAD group", x.joint(0, 8), ForceNet.BAD);
        C.due("4 BAD group", x.joint(0, -1), ForceNet.BAD);
    }

    private static void step() {
        ForceNet x = new ForceNet();
        x.moves(1, 0, 2);
        x.moves(1, 1, 3);
        for (int j = 0; j < 6; j++) {
            C.due("5 step", x.step(1, j, j % 4), 1);
        }
        for (int j = 0; j < 6; j++) {
            C.due("6 leads", x.leads(1, j), j % 4);
            C.due("5 where it led", x.step(1, j, 3), j % 4);
        }
        C.due("5 BAD move", x.step(1, 6, 0), ForceNet.BAD);
        C.due("5 BAD move", x.step(1, -1, 0), ForceNet.BAD);
        C.due("5 BAD state", x.step(4, 0, 0), ForceNet.BAD);
        C.due("5 BAD state", x.step(-1, 0, 0), ForceNet.BAD);
        C.due("5 BAD to", x.step(1, 0, 4), ForceNet.BAD);
        C.due("5 BAD to", x.step(1, 0, -1), ForceNet.BAD);
        C.due("6 BAD move", x.leads(1, 6), ForceNet.BAD);
        C.due("6 BAD move", x.leads(1, -1), ForceNet.BAD);
        C.due("6 BAD state", x.leads(4, 0), ForceNet.BAD);
        C.due("6 BAD state", x.leads(-1, 0), ForceNet.BAD);
        C.due("6 unchanged", x.leads(1, 0), 3);
        // The least PLAYER has the highest digit.
        x.step(1, 3, 0);
        x.choose(0, 1, 1);
        x.choose(1, 1, 0);
        x.goal(0, 1);
        C.due("6 digits", x.content(1), 1);
    }

    private static void letters() {
        ForceNet x = new ForceNet();
        C.due("7 letters", x.letters(2, 128), 0);
        C.due("7 letters was", x.letters(2, 255), 128);
        C.due("7 BAD bits", x.letters(2, 256), ForceNet.BAD);
        C.due("7 BAD bits", x.letters(2, -1), ForceNet.BAD);
        C.due("7 BAD state", x.letters(4, 0), ForceNet.BAD);
        C.due("7 BAD state", x.letters(-1, 0), ForceNet.BAD);
        C.due("7 stay", x.letters(2, 255), 255);
        for (char c = 'a'; c <= 'h'; c++) {
            x.letters(0, 1 << (c - 'a'));
            Check.read(x, String.valueOf(c));
            C.due("7 letter " + c, x.holds(), 5);
            x.letters(0, 255 ^ 1 << (c - 'a'));
            C.due("7 no letter " + c, x.holds(), 4);
        }
    }

    private static void heap() {
        ForceNet x = new ForceNet();
        C.due("8 heap", x.heap(1, 3, 11), 3);
        C.due("8 heap was", x.heap(1, 3, 0), 11);
        C.due("8 of the other", x.heap(0, 3, 3), 3);
        int[][] wrong = {{2, 0, 0}, {-1, 0, 0}, {0, 4, 0}, {0, -1, 0}, {0, 0, 12}, {0, 0, -1}};
        for (int[] w : wrong) {
            C.due("8 heap BAD", x.heap(w[0], w[1], w[2]), ForceNet.BAD);
        }
        C.due("8 stays", x.heap(1, 3, 3), 0);
    }

    private static void price() {
        ForceNet x = new ForceNet();
        x.moves(3, 1, 2);
        C.due("9 price", x.price(3, 1, 1, 9), 0);
        C.due("9 price was", x.price(3, 1, 1, 4), 9);
        C.due("9 of another move", x.price(3, 1, 0, 1), 0);
        C.due("9 of another player", x.price(3, 0, 0, 1), 0);
        int[][] wrong = {{4, 0, 0, 0}, {-1, 0, 0, 0}, {3, 2, 0, 0}, {3, -1, 0, 0}, {3, 1, 2, 0}, {3, 1, -1, 0}, {3, 0, 1, 0}, {3, 1, 1, 10}, {3, 1, 1, -1}};
        for (int[] w : wrong) {
            C.due("9 price BAD", x.price(w[0], w[1], w[2], w[3]), ForceNet.BAD);
        }
        C.due("9 stays", x.price(3, 1, 1, 0), 4);
    }

    private static void steps() {
        ForceNet x = new ForceNet();
        x.moves(0, 0, 2);
        x.moves(0, 1, 2);
        for (int lane = 0; lane < 3; lane++) {
            int other = (lane + 1) % 3;
            x.drop(0);
            C.due("10 NULL", x.steps(0, 0, lane, 0, 0), ForceNet.NULL);
            x.sheet(0, lane, 5);
            for (int i = 0; i < 5; i++) {
                x.item(0, lane, i, (i + lane) % 4);
            }
            C.due("10 CAST", x.steps(0, 0, other, 9, 0), ForceNet.CAST);
            C.due("10 INDEX", x.steps(0, 0, lane, -1, 0), ForceNet.INDEX);
            C.due("10 INDEX", x.steps(0, 0, lane, 6, 0), ForceNet.INDEX);
            C.due("10 INDEX", x.steps(0, 0, lane, 3, 3), ForceNet.INDEX);
            C.due("10 INDEX", x.steps(0, 0, lane, Integer.MAX_VALUE, 4), ForceNet.INDEX);
            C.due("10 none at the end", x.steps(0, 0, lane, 5, 0), 0);
            C.due("10 steps", x.steps(0, 0, lane, 1, 4), 4);
            for (int j = 0; j < 4; j++) {
                C.due("10 leads", x.leads(0, j), (j + 1 + lane) % 4);
            }
        }
        x.item(0, 2, 3, 4);
        C.due("10 NOT", x.steps(0, 0, 2, 0, 4), ForceNet.NOT);
        C.due("10 unchanged", x.leads(0, 0), 3);
        x.item(0, 2, 3, -1);
        C.due("10 NOT below 0", x.steps(0, 0, 2, 0, 4), ForceNet.NOT);
        C.due("10 up to the wrong one", x.steps(0, 0, 2, 0, 3), 3);
        C.due("10 changed", x.leads(0, 0), 2);
        C.due("10 INDEX ahead of NOT", x.steps(0, 0, 2, 2, 4), ForceNet.INDEX);
        int[][] wrong = {{-1, 0, 0, 0, 0}, {4, 0, 0, 0, 0}, {0, -1, 0, 0, 0}, {0, 4, 0, 0, 0}, {0, 0, -1, 0, 0}, {0, 0, 3, 0, 0},
            {0, 0, 0, 0, -1}, {0, 0, 0, 0, 82}, {0, 0, 2, 0, 5}, {1, 1, 0, 0, 2}};
        for (int[] w : wrong) {
            C.due("10 steps BAD", x.steps(w[0], w[1], w[2], w[3], w[4]), ForceNet.BAD);
        }
        many(x);
    }

    private static void many(ForceNet x) {
        x.net(12, 4);
        for (int p = 0; p < 4; p++) {
            x.moves(11, p, 3);
        }
        x.sheet(3, 0, 81);
        for (int i = 0; i < 81; i++) {
            x.item(3, 0, i, (i * 7 + 256) % 12);
        }
        C.due("10 all 81", x.steps(11, 3, 0, 0, 81), 81);
        for (int i = 0; i < 81; i++) {
            C.due("10 leads " + i, x.leads(11, i), (byte) ((i * 7 + 256) % 12));
        }
        x.item(3, 0, 80, 3);
        C.due("10 the first three", x.steps(11, 3, 0, 78, 3), 3);
        C.due("10 the third", x.leads(11, 2), 3);
        C.due("10 the fourth stays", x.leads(11, 3), 1);
        // Bytes have a sign: 200 is below 0.
        x.item(3, 0, 0, 200);
        C.due("10 a byte below 0", x.steps(11, 3, 0, 0, 1), ForceNet.NOT);
        x.item(3, 0, 0, 256 + 5);
        C.due("10 lowest bits", x.steps(11, 3, 0, 0, 1), 1);
        C.due("10 leads by them", x.leads(11, 0), 5);
    }
}
