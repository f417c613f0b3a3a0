import java.math.BigInteger;
import java.util.List;
import java.util.Random;

/** Nets, FORMS and calls by chance, against SlowNet (promises 12 to 32). */
final class ModelTest {
    private static final Check CHECK = new Check("model");

    public static void main(String[] args) {
        for (int seed = 0; seed < 1200; seed++) {
            Random chance = new Random(seed);
            int players = 1 + chance.nextInt(3);
            run(chance, "small " + seed, 2 + chance.nextInt(4 - players / 3), players, players == 1 ? 3 : 2, false);
        }
        for (int seed = 0; seed < 60; seed++) {
            Random chance = new Random(100000 + seed);
            run(chance, "big " + seed, 5 + chance.nextInt(8), 1 + chance.nextInt(4), 3, true);
        }
        for (int seed = 0; seed < 300; seed++) {
            manyOpen(new Random(200000 + seed), "open " + seed + " ");
        }
        CHECK.end();
    }

    /** Twelve STATES, one alone to be come to by a lot among three MOVES nearly everywhere. */
    private static void manyOpen(Random chance, String name) {
        SlowNet slow = new SlowNet(chance, 12, 1, 3);
        slow.lot = 0;
        for (int s = 0; s < 12; s++) {
            slow.letters[s] = s == 5 ? 1 : 0;
        }
        ForceNet x = slow.told();
        Check.read(x, "a");
        Tree tree = new Tree();
        tree.kind = 'a';
        for (int s = 0; s < 12; s++) {
            odds(x, slow, tree, s, name + s + " ");
        }
    }

    private static void run(Random chance, String name, int states, int players, int most, boolean big) {
        SlowNet slow = new SlowNet(chance, states, players, most);
        for (int k = 0; k < (big ? 2 : 5); k++) {
            Tree tree = Tree.any(chance, big ? 2 : 1 + chance.nextInt(3), players);
            if (tree.parts().size() <= 24 && tree.text().length() <= 100) {
                form(slow, tree, name + " " + tree.text() + " ", chance);
            }
        }
        for (int s = 0; s < states; s++) {
            goals(slow.told(), slow, s, name + " " + s + " ", big);
            forces(slow.told(), slow, s, name + " " + s, chance);
        }
    }

    /** An object has 512 calls: so each STATE has one of its own. */
    private static void form(SlowNet slow, Tree tree, String told, Random chance) {
        List<Tree> parts = tree.parts();
        for (int s = 0; s < slow.states; s++) {
            ForceNet x = slow.told();
            askOtherThings(x, slow, s, chance);
            CHECK.due(told + "form", Check.read(x, tree.text()), parts.size());
            CHECK.due(told + "count", x.count(2), parts.size());
            CHECK.due(told + "holds", x.holds(), SlowNet.bits(slow.holds(tree)));
            for (int i = 0; i < parts.size(); i++) {
                CHECK.due(told + "part " + i, x.part(i), SlowNet.bits(slow.holds(parts.get(i))));
            }
            laws(x, slow, tree, s, told + s + " ", chance);
            odds(x, slow, tree, s, told + s + " ");
        }
    }

    /** Another FORM and other LETTERS, asked and put back: nothing of them may be left. */
    private static void askOtherThings(ForceNet x, SlowNet slow, int s, Random chance) {
        Check.read(x, Tree.any(chance, 1, slow.players).text());
        x.letters(s, 255 - slow.letters[s]);
        x.holds();
        x.helpers(s);
        x.blind(s);
        x.letters(s, slow.letters[s]);
        x.plan(s);
        x.helpers(s);
    }

    private static void laws(ForceNet x, SlowNet slow, Tree tree, int s, String told, Random chance) {
        boolean law = tree.isLaw();
        boolean turns = "FUI".indexOf(tree.kind) >= 0;
        boolean tolls = "FU".indexOf(tree.kind) >= 0;
        if (!law) {
            CHECK.due(told + "plan", x.plan(s), ForceNet.NOT);
            for (int move = -1; move < 3; move++) {
                CHECK.due(told + "answer " + move, x.answer(s, move), ForceNet.NOT);
            }
            CHECK.due(told + "blind", x.blind(s), ForceNet.NOT);
            CHECK.due(told + "blindMove", x.blindMove(s, 0, 0), ForceNet.NOT);
            CHECK.due(told + "helpers", x.helpers(s), ForceNet.NOT);
        }
        CHECK.due(told + "round", x.round(s), !turns ? ForceNet.NOT : turn(slow.rounds(tree)[s]));
        if (!tolls) {
            CHECK.due(told + "toll", x.toll(s), ForceNet.NOT);
        } else if (slow.hasFewPlans(tree.group)) {
            CHECK.due(told + "toll", x.toll(s), slow.toll(tree, s));
        }
        if (!law) {
            return;
        }
        CHECK.due(told + "plan", x.plan(s), slow.plan(tree, s));
        for (int move = 0; move < 5; move++) {
            CHECK.due(told + "answer " + move, x.answer(s, move), slow.answer(tree, s, move));
        }
        CHECK.due(told + "helpers", x.helpers(s), slow.helpers(tree, s));
        CHECK.due(told + "plan again", x.plan(s), slow.plan(tree, s));
        blind(x, slow, tree, s, told);
        walk(x, slow, tree, s, told, chance);
    }

    private static int turn(int turn) {
        return turn < 0 ? ForceNet.NONE : turn;
    }

    private static void blind(ForceNet x, SlowNet slow, Tree tree, int s, String told) {
        boolean many = slow.rows(tree.group) > 5000;
        int[][] row = many ? null : slow.firstRow(tree, s);
        CHECK.due(told + "blind", x.blind(s), many ? ForceNet.SPENT : row == null ? 0 : 1);
        for (int p = 0; p < slow.players; p++) {
            for (int h = 0; h < slow.states; h++) {
                boolean any = false;
                for (int u = 0; u < slow.states; u++) {
                    any |= slow.heaps[p][u] == h;
                }
                int want = many ? ForceNet.SPENT : row == null ? ForceNet.NONE : row[p][h];
                if (!any || (tree.group >> p & 1) == 0) {
                    want = ForceNet.BAD;
                }
                CHECK.due(told + "blindMove " + p + " " + h, x.blindMove(s, p, h), want);
            }
        }
    }

    private static void walk(ForceNet x, SlowNet slow, Tree tree, int s, String told, Random chance) {
        int n = chance.nextInt(9);
        x.sheet(0, 1, n + 1);
        int[] trail = new int[n + 1];
        trail[0] = s;
        for (int k = 0; k < n; k++) {
            int item = chance.nextInt(200);
            x.item(0, 1, k + 1, item);
            trail[k + 1] = slow.walkOn(tree, trail[k], item);
        }
        CHECK.due(told + "walk", x.walk(s, 0, 1, 1, n), trail[n]);
        for (int k = 0; k <= n; k++) {
            CHECK.due(told + "walked " + k, x.walked(k), trail[k]);
        }
        CHECK.due(told + "walked on", x.walked(n + 1), ForceNet.BAD);
    }

    private static void odds(ForceNet x, SlowNet slow, Tree tree, int s, String told) {
        BigInteger[] due = slow.chance(tree, s);
        CHECK.due(told + "chance above", x.chance(s, 0), due[0].longValueExact());
        CHECK.due(told + "chance below", x.chance(s, 1), due[1].longValueExact());
    }

    private static void goals(ForceNet x, SlowNet slow, int s, String told, boolean big) {
        CHECK.due(told + "content", x.content(s), slow.content(slow.chosen, s));
        CHECK.due(told + "count 3", x.count(3), slow.allPlans());
        if (!big) {
            CHECK.due(told + "stable", x.stable(s), slow.stable(slow.chosen, s) ? 1 : 0);
        }
        if (slow.allPlans() > 20000) {
            CHECK.due(told + "settle", x.settle(s), ForceNet.SPENT);
        } else if (!big) {
            int[][] picks = slow.settled(s);
            CHECK.due(told + "settle", x.settle(s), picks == null ? ForceNet.NONE : slow.content(picks, s));
            for (int u = 0; picks != null && u < slow.states; u++) {
                for (int p = 0; p < slow.players; p++) {
                    slow.chosen[u][p] = picks[u][p];
                    CHECK.due(told + "settled", x.choose(p, u, 0), picks[u][p]);
                    x.choose(p, u, picks[u][p]);
                }
            }
        }
    }

    private static void forces(ForceNet x, SlowNet slow, int s, String told, Random chance) {
        for (int group = 0; group <= slow.everyone(); group++) {
            int set = chance.nextInt(1 << slow.states);
            boolean[] of = new boolean[slow.states];
            for (int u = 0; u < slow.states; u++) {
                of[u] = (set >> u & 1) != 0;
            }
            CHECK.due(told + " group " + group + " force " + set, x.force(s, group, set), slow.force(s, group, of) ? 1 : 0);
            CHECK.due(told + " group " + group + " joint", x.joint(s, group), slow.joint(s, group).size());
        }
    }
}
