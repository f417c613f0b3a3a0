import java.math.BigInteger;
import java.util.ArrayList;
import java.util.List;
import java.util.Random;

/**
 * The document's terms gone through by hand, as slowly as need be: by joint moves as rows of moves, by plans tried one
 * by one, by paths; nothing of it is shared with ForceNet.
 */
final class SlowNet {
    final int states;
    final int players;
    final int[][] m;
    final int[][] to;
    final int[] letters;
    final int[][] heaps;
    final int[][][] prices;
    final int[][] chosen;
    final int[] goals;
    int lot = -1;

    /** How many JOINT MOVES of a STATE may lead elsewhere: with more, 512 calls could not tell the largest nets. */
    private static final int ELSEWHERE = 14;

    SlowNet(Random chance, int states, int players, int most) {
        this.states = states;
        this.players = players;
        m = new int[states][players];
        to = new int[states][];
        letters = new int[states];
        heaps = new int[players][states];
        prices = new int[states][players][3];
        chosen = new int[states][players];
        goals = new int[players];
        for (int s = 0; s < states; s++) {
            int all = 1;
            for (int p = 0; p < players; p++) {
                m[s][p] = 1 + chance.nextInt(most);
                all *= m[s][p];
                heaps[p][s] = chance.nextInt(3) == 0 ? chance.nextInt(states) : s;
                chosen[s][p] = chance.nextInt(m[s][p]);
                for (int k = 0; k < m[s][p]; k++) {
                    boolean isDear = states < 5 ? chance.nextInt(4) != 0 : chance.nextInt(3) == 0;
                    prices[s][p][k] = isDear ? chance.nextInt(10) : 0;
                }
            }
            letters[s] = chance.nextInt(8);
            to[s] = new int[all];
            for (int j = 0; j < all; j++) {
                boolean stays = chance.nextInt(3) == 0 || chance.nextInt(all) >= ELSEWHERE;
                to[s][j] = stays ? s : chance.nextInt(states);
            }
        }
        for (int p = 0; p < players; p++) {
            goals[p] = chance.nextInt(4) == 0 ? 0 : 1 << chance.nextInt(states);
        }
        lot = chance.nextInt(players + 1) - 1;
    }

    /** A new object that is told all of it but what is so at first. */
    ForceNet told() {
        ForceNet x = new ForceNet();
        x.net(states, players);
        for (int s = 0; s < states; s++) {
            for (int p = 0; p < players; p++) {
                if (m[s][p] != 1) {
                    x.moves(s, p, m[s][p]);
                }
            }
            for (int p = 0; p < players; p++) {
                tell(x, s, p);
            }
            x.letters(s, letters[s]);
            for (int j = 0; j < to[s].length; j++) {
                if (to[s][j] != s) {
                    x.step(s, j, to[s][j]);
                }
            }
        }
        for (int p = 0; p < players; p++) {
            x.goal(p, goals[p]);
        }
        x.lot(lot);
        return x;
    }

    private void tell(ForceNet x, int s, int p) {
        if (heaps[p][s] != s) {
            x.heap(p, s, heaps[p][s]);
        }
        if (chosen[s][p] != 0) {
            x.choose(p, s, chosen[s][p]);
        }
        for (int k = 0; k < m[s][p]; k++) {
            if (prices[s][p][k] != 0) {
                x.price(s, p, k, prices[s][p][k]);
            }
        }
    }

    int everyone() {
        return (1 << players) - 1;
    }

    // ---- joint moves

    /** JOINT MOVES of a GROUP in their order: rows of MOVES, -1 for who is not in it. */
    List<int[]> joint(int s, int group) {
        List<int[]> all = new ArrayList<>();
        gather(s, group, 0, new int[players], all);
        return all;
    }

    private void gather(int s, int group, int p, int[] row, List<int[]> all) {
        if (p == players) {
            all.add(row.clone());
        } else if ((group >> p & 1) == 0) {
            row[p] = -1;
            gather(s, group, p + 1, row, all);
        } else {
            for (int k = 0; k < m[s][p]; k++) {
                row[p] = k;
                gather(s, group, p + 1, row, all);
            }
        }
    }

    int lead(int s, int[] mine, int[] theirs) {
        int number = 0;
        for (int p = 0; p < players; p++) {
            number = number * m[s][p] + (mine[p] >= 0 ? mine[p] : theirs[p]);
        }
        return to[s][number];
    }

    boolean leadsInto(int s, int group, int[] mine, boolean[] set) {
        for (int[] theirs : joint(s, everyone() & ~group)) {
            if (!set[lead(s, mine, theirs)]) {
                return false;
            }
        }
        return true;
    }

    boolean force(int s, int group, boolean[] set) {
        for (int[] mine : joint(s, group)) {
            if (leadsInto(s, group, mine, set)) {
                return true;
            }
        }
        return false;
    }

    boolean[] all() {
        boolean[] set = new boolean[states];
        java.util.Arrays.fill(set, true);
        return set;
    }

    static int bits(boolean[] set) {
        int bits = 0;
        for (int s = 0; s < set.length; s++) {
            bits |= set[s] ? 1 << s : 0;
        }
        return bits;
    }

    // ---- where a FORM HOLDS

    boolean[] holds(Tree t) {
        return holds(t, t.group);
    }

    /** As if the OUTERMOST were of another GROUP. */
    boolean[] holds(Tree t, int group) {
        boolean[] f = t.left == null ? null : holds(t.left);
        boolean[] g = t.right == null ? null : holds(t.right);
        boolean[] set = new boolean[states];
        for (int s = 0; s < states; s++) {
            switch (t.kind) {
                case 'T' -> set[s] = true;
                case '!' -> set[s] = !f[s];
                case '&' -> set[s] = f[s] && g[s];
                case '|' -> set[s] = f[s] || g[s];
                case 'X' -> set[s] = force(s, group, f);
                case 'G' -> set[s] = keeps(s, group, f);
                case 'F' -> set[s] = rounds(group, all(), f)[s] >= 0;
                case 'U' -> set[s] = rounds(group, f, g)[s] >= 0;
                case 'I' -> set[s] = true;
                default -> set[s] = (letters[s] >> (t.kind - 'a') & 1) != 0;
            }
        }
        return t.kind == 'I' ? again(group, f) : set;
    }

    /** Whether the GROUP can stay in f for so many steps that some STATE comes twice. */
    private boolean keeps(int s, int group, boolean[] f) {
        boolean[] set = f.clone();
        for (int k = 0; k <= states; k++) {
            boolean[] next = new boolean[states];
            for (int t = 0; t < states; t++) {
                next[t] = f[t] && force(t, group, set);
            }
            set = next;
        }
        return set[s];
    }

    /** In how many steps at most the GROUP comes to g through f; -1: it can't. */
    int[] rounds(int group, boolean[] f, boolean[] g) {
        int[] turn = new int[states];
        for (int s = 0; s < states; s++) {
            turn[s] = g[s] ? 0 : -1;
        }
        for (int k = 1; k <= states; k++) {
            boolean[] soFar = new boolean[states];
            for (int s = 0; s < states; s++) {
                soFar[s] = turn[s] >= 0;
            }
            for (int s = 0; s < states; s++) {
                if (!soFar[s] && f[s] && force(s, group, soFar)) {
                    turn[s] = k;
                }
            }
        }
        return turn;
    }

    private long plansOf(int group) {
        long all = 1;
        for (int s = 0; s < states; s++) {
            all *= joint(s, group).size();
        }
        return all;
    }

    /** By plans where they are few: a plan does for a STATE if no path by it stays out of f for ever. */
    private boolean[] again(int group, boolean[] f) {
        boolean[] set = new boolean[states];
        if (plansOf(group) > 2000) {
            return againByRounds(group, f);
        }
        for (int[][] plan : plans(group)) {
            boolean[][] next = graph(group, plan);
            boolean[] lost = new boolean[states];
            for (int s = 0; s < states; s++) {
                lost[s] = !f[s];
            }
            for (int k = 0; k < states; k++) {
                boolean[] still = new boolean[states];
                for (int s = 0; s < states; s++) {
                    still[s] = !f[s] && meets(next[s], lost);
                }
                lost = still;
            }
            for (int s = 0; s < states; s++) {
                set[s] |= !meets(reached(next, s), lost);
            }
        }
        return set;
    }

    private boolean[] againByRounds(int group, boolean[] f) {
        boolean[] set = all();
        for (int k = 0; k <= states + 1; k++) {
            int[] turn = rounds(group, all(), within(group, f, set));
            for (int s = 0; s < states; s++) {
                set[s] = turn[s] >= 0;
            }
        }
        return set;
    }

    private boolean[] within(int group, boolean[] f, boolean[] set) {
        boolean[] able = new boolean[states];
        for (int s = 0; s < states; s++) {
            able[s] = f[s] && force(s, group, set);
        }
        return able;
    }

    private static boolean meets(boolean[] a, boolean[] b) {
        for (int s = 0; s < a.length; s++) {
            if (a[s] && b[s]) {
                return true;
            }
        }
        return false;
    }

    private static boolean covers(boolean[] big, boolean[] small) {
        for (int s = 0; s < big.length; s++) {
            if (small[s] && !big[s]) {
                return false;
            }
        }
        return true;
    }

    /** All plans of a GROUP: a JOINT MOVE in each STATE. */
    private List<int[][]> plans(int group) {
        List<int[][]> all = new ArrayList<>();
        all.add(new int[states][]);
        for (int s = 0; s < states; s++) {
            List<int[][]> more = new ArrayList<>();
            for (int[][] plan : all) {
                for (int[] mine : joint(s, group)) {
                    int[][] longer = plan.clone();
                    longer[s] = mine;
                    more.add(longer);
                }
            }
            all = more;
        }
        return all;
    }

    private boolean[][] graph(int group, int[][] plan) {
        boolean[][] next = new boolean[states][states];
        for (int s = 0; s < states; s++) {
            for (int[] theirs : joint(s, everyone() & ~group)) {
                next[s][lead(s, plan[s], theirs)] = true;
            }
        }
        return next;
    }

    private static boolean[] reached(boolean[][] next, int from) {
        boolean[] set = new boolean[next.length];
        walkAll(next, from, set);
        return set;
    }

    private static void walkAll(boolean[][] next, int s, boolean[] set) {
        set[s] = true;
        for (int t = 0; t < set.length; t++) {
            if (next[s][t] && !set[t]) {
                walkAll(next, t, set);
            }
        }
    }

    // ---- plans

    /** ROUNDS of the OUTERMOST (F, U, I). */
    int[] rounds(Tree t) {
        boolean[] f = holds(t.left);
        if (t.kind == 'U') {
            return rounds(t.group, f, holds(t.right));
        }
        return rounds(t.group, all(), t.kind == 'F' ? f : within(t.group, f, holds(t)));
    }

    int plan(Tree t, int s) {
        boolean[] held = holds(t);
        if (!held[s]) {
            return ForceNet.NONE;
        }
        boolean[] wanted = held;
        if (t.kind == 'X') {
            wanted = holds(t.left);
        }
        if (t.kind == 'F' || t.kind == 'U' || t.kind == 'I') {
            int[] turn = rounds(t);
            if (turn[s] == 0 && t.kind != 'I') {
                return ForceNet.NONE;
            }
            if (turn[s] > 0) {
                wanted = new boolean[states];
                for (int u = 0; u < states; u++) {
                    wanted[u] = turn[u] >= 0 && turn[u] < turn[s];
                }
            }
        }
        List<int[]> ours = joint(s, t.group);
        for (int k = 0; k < ours.size(); k++) {
            if (leadsInto(s, t.group, ours.get(k), wanted)) {
                return k;
            }
        }
        return ForceNet.NONE;
    }

    int answer(Tree t, int s, int move) {
        List<int[]> ours = joint(s, t.group);
        if (move >= ours.size()) {
            return ForceNet.BAD;
        }
        boolean[] wanted = t.kind == 'X' ? holds(t.left) : holds(t);
        List<int[]> theirs = joint(s, everyone() & ~t.group);
        for (int k = 0; k < theirs.size(); k++) {
            if (!wanted[lead(s, ours.get(move), theirs.get(k))]) {
                return k;
            }
        }
        return ForceNet.NONE;
    }

    int walkOn(Tree t, int s, int item) {
        List<int[]> theirs = joint(s, everyone() & ~t.group);
        int plan = plan(t, s);
        return lead(s, joint(s, t.group).get(plan < 0 ? 0 : plan), theirs.get(item % theirs.size()));
    }

    /** Whether plans are few enough for toll(). */
    boolean hasFewPlans(int group) {
        return plansOf(group) <= 2000;
    }

    /** The least of all plans' dearest paths; -1: none. */
    int toll(Tree t, int s) {
        boolean[] f = t.kind == 'U' ? holds(t.left) : all();
        boolean[] g = t.kind == 'U' ? holds(t.right) : holds(t.left);
        int least = -1;
        for (int[][] plan : plans(t.group)) {
            int sum = dearest(t.group, plan, graph(t.group, plan), s, f, g, 0);
            if (sum >= 0 && (least < 0 || sum < least)) {
                least = sum;
            }
        }
        return least < 0 ? ForceNet.NONE : least;
    }

    private int dearest(int group, int[][] plan, boolean[][] next, int s, boolean[] f, boolean[] g, int steps) {
        if (g[s]) {
            return 0;
        }
        if (!f[s] || steps > states) {
            return -1;
        }
        int most = 0;
        for (int t = 0; t < states; t++) {
            if (next[s][t]) {
                int sum = dearest(group, plan, next, t, f, g, steps + 1);
                if (sum < 0) {
                    return -1;
                }
                most = Math.max(most, sum);
            }
        }
        for (int p = 0; p < players; p++) {
            most += plan[s][p] < 0 ? 0 : prices[s][p][plan[s][p]];
        }
        return most;
    }

    // ---- blind

    /** By PLAYER and HEAP the MOVES of the first row that does (-1: no such HEAP); null: none. */
    int[][] firstRow(Tree t, int s) {
        int[][] least = new int[players][12];
        for (int p = 0; p < players; p++) {
            for (int u = 0; u < states && (t.group >> p & 1) != 0; u++) {
                int h = heaps[p][u];
                least[p][h] = least[p][h] == 0 ? m[u][p] : Math.min(least[p][h], m[u][p]);
            }
        }
        boolean[] fit = new boolean[states];
        fit[s] = true;
        for (int p = 0; p < players; p++) {
            for (int u = 0; u < states && (t.group >> p & 1) != 0; u++) {
                fit[u] |= heaps[p][u] == heaps[p][s];
            }
        }
        return tryRow(t, fit, least, new int[players][12], 0);
    }

    long rows(int group) {
        long all = 1;
        for (int p = 0; p < players; p++) {
            for (int h = 0; h < 12 && (group >> p & 1) != 0; h++) {
                int least = 9;
                for (int s = 0; s < states; s++) {
                    least = heaps[p][s] == h ? Math.min(least, m[s][p]) : least;
                }
                all *= least == 9 ? 1 : least;
            }
        }
        return all;
    }

    private int[][] tryRow(Tree t, boolean[] fit, int[][] least, int[][] row, int place) {
        if (place == players * 12) {
            return rowDoes(t, fit, row) ? row : null;
        }
        int p = place / 12;
        int h = place % 12;
        for (int k = 0; k < Math.max(least[p][h], 1); k++) {
            row[p][h] = k;
            int[][] found = tryRow(t, fit, least, row, place + 1);
            if (found != null) {
                return found;
            }
        }
        row[p][h] = 0;
        return null;
    }

    private boolean rowDoes(Tree t, boolean[] fit, int[][] row) {
        int[][] plan = new int[states][players];
        for (int s = 0; s < states; s++) {
            for (int p = 0; p < players; p++) {
                plan[s][p] = (t.group >> p & 1) != 0 ? row[p][heaps[p][s]] : -1;
            }
        }
        boolean[][] next = graph(t.group, plan);
        boolean[] f = holds(t.left);
        boolean[] g = t.right == null ? f : holds(t.right);
        for (int s = 0; s < states; s++) {
            boolean does = switch (t.kind) {
                case 'X' -> covers(f, next[s]);
                case 'G' -> covers(f, reached(next, s));
                case 'F' -> surely(next, s, all(), f, 0);
                case 'U' -> surely(next, s, f, g, 0);
                default -> alwaysAgain(next, s, f);
            };
            if (fit[s] && !does) {
                return false;
            }
        }
        return true;
    }

    private boolean surely(boolean[][] next, int s, boolean[] f, boolean[] g, int steps) {
        if (g[s]) {
            return true;
        }
        if (!f[s] || steps > states) {
            return false;
        }
        for (int t = 0; t < states; t++) {
            if (next[s][t] && !surely(next, t, f, g, steps + 1)) {
                return false;
            }
        }
        return true;
    }

    /** From each STATE on the way f must be come to surely, once more behind a step. */
    private boolean alwaysAgain(boolean[][] next, int s, boolean[] f) {
        boolean[] on = reached(next, s);
        for (int t = 0; t < states; t++) {
            if (on[t] && !surely(next, t, all(), f, 0)) {
                return false;
            }
        }
        return true;
    }

    // ---- lots and goals

    /** Above and below, by taking STATES out of the net one by one. */
    BigInteger[] chance(Tree t, int state) {
        boolean[] held = holds(t);
        if (held[state]) {
            return new BigInteger[] {BigInteger.ONE, BigInteger.ONE};
        }
        int goal = states;
        Fraction[][] go = new Fraction[states][states + 1];
        for (int s = 0; s < states; s++) {
            java.util.Arrays.fill(go[s], Fraction.whole(0));
            int all = lot < 0 ? 1 : m[s][lot];
            for (int k = 0; k < all; k++) {
                int[] row = chosen[s].clone();
                if (lot >= 0) {
                    row[lot] = k;
                }
                int end = lead(s, row, row);
                int spot = held[end] ? goal : end;
                go[s][spot] = go[s][spot].plus(Fraction.of(1, all));
            }
        }
        for (int out = 0; out < states; out++) {
            Fraction stay = go[out][out];
            boolean stuck = stay.isOne();
            for (int s = 0; s < states && out != state; s++) {
                for (int end = 0; end <= states && s != out; end++) {
                    if (end != out && !stuck) {
                        go[s][end] = go[s][end].plus(go[s][out].times(go[out][end]).over(stay.lessThanOne()));
                    }
                }
                if (s != out) {
                    go[s][out] = Fraction.whole(0);
                }
            }
        }
        Fraction stay = go[state][state];
        Fraction answer = stay.isOne() ? Fraction.whole(0) : go[state][goal].over(stay.lessThanOne());
        return new BigInteger[] {answer.above, answer.below};
    }

    int content(int[][] picks, int state) {
        int who = 0;
        int s = state;
        for (int k = 0; k <= states; k++) {
            for (int p = 0; p < players; p++) {
                who |= (goals[p] >> s & 1) << p;
            }
            s = lead(s, picks[s], picks[s]);
        }
        return who;
    }

    /** Tries all other MOVES of each PLAYER who is not CONTENT. */
    boolean stable(int[][] picks, int state) {
        int who = content(picks, state);
        for (int p = 0; p < players; p++) {
            if ((who >> p & 1) == 0 && couldBe(picks, state, p, 0)) {
                return false;
            }
        }
        return true;
    }

    private boolean couldBe(int[][] picks, int state, int p, int s) {
        if (s == states) {
            return (content(picks, state) >> p & 1) != 0;
        }
        int was = picks[s][p];
        boolean could = false;
        for (int k = 0; k < m[s][p] && !could; k++) {
            picks[s][p] = k;
            could = couldBe(picks, state, p, s + 1);
        }
        picks[s][p] = was;
        return could;
    }

    long allPlans() {
        BigInteger all = BigInteger.ONE;
        for (int s = 0; s < states; s++) {
            all = all.multiply(BigInteger.valueOf(to[s].length));
        }
        return all.min(BigInteger.valueOf(2000000000L)).longValue();
    }

    /** The first PLANS that are STABLE; null: none. */
    int[][] settled(int state) {
        int[][] picks = new int[states][players];
        return settle(picks, state, 0) ? picks : null;
    }

    private boolean settle(int[][] picks, int state, int place) {
        if (place == states * players) {
            return stable(picks, state);
        }
        int p = place / states;
        int s = place % states;
        for (int k = 0; k < m[s][p]; k++) {
            picks[s][p] = k;
            if (settle(picks, state, place + 1)) {
                return true;
            }
        }
        picks[s][p] = 0;
        return false;
    }

    /** Of as few the one whose PLAYERS, written as rising digits, come first. */
    int helpers(Tree t, int state) {
        int best = ForceNet.NONE;
        for (int more = 0; more <= everyone(); more++) {
            boolean apart = (more & t.group) == 0;
            if (apart && holds(t, t.group | more)[state] && (best < 0 || isAhead(digits(more), digits(best)))) {
                best = more;
            }
        }
        return best;
    }

    private static boolean isAhead(String one, String other) {
        return one.length() == other.length() ? one.compareTo(other) < 0 : one.length() < other.length();
    }

    private static String digits(int group) {
        StringBuilder text = new StringBuilder();
        for (int p = 0; p < 4; p++) {
            if ((group >> p & 1) != 0) {
                text.append(p);
            }
        }
        return text.toString();
    }

    /** Fractions without a common divisor. */
    private static final class Fraction {
        final BigInteger above;
        final BigInteger below;

        private Fraction(BigInteger above, BigInteger below) {
            BigInteger both = above.gcd(below);
            this.above = above.divide(both);
            this.below = below.divide(both);
        }

        static Fraction of(int above, int below) {
            return new Fraction(BigInteger.valueOf(above), BigInteger.valueOf(below));
        }

        static Fraction whole(int number) {
            return of(number, 1);
        }

        boolean isOne() {
            return above.equals(below);
        }

        Fraction lessThanOne() {
            return new Fraction(below.subtract(above), below);
        }

        Fraction plus(Fraction o) {
            return new Fraction(above.multiply(o.below).add(o.above.multiply(below)), below.multiply(o.below));
        }

        Fraction times(Fraction o) {
            return new Fraction(above.multiply(o.above), below.multiply(o.below));
        }

        Fraction over(Fraction o) {
            return new Fraction(above.multiply(o.below), below.multiply(o.above));
        }
    }
}
