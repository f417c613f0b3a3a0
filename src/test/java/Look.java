/** All of a small object that can be seen from outside, as a text. It is told by calls, so the object is used up then. */
final class Look {
    private final ForceNet x;
    private final StringBuilder seen = new StringBuilder();

    private Look(ForceNet x) {
        this.x = x;
    }

    static String at(ForceNet x) {
        Look look = new Look(x);
        look.walked();
        look.form();
        look.net();
        look.lots();
        look.tape();
        look.sheets();
        return look.seen.toString();
    }

    private void see(String what, long answer) {
        seen.append(what).append(' ').append(answer).append('\n');
    }

    private void walked() {
        for (int k = 0; k == 0 || x.walked(k - 1) >= 0; k++) {
            see("walked", x.walked(k));
        }
    }

    private void form() {
        see("holds", x.holds());
        for (int k = 0; k < x.count(2); k++) {
            see("part", x.part(k));
        }
        for (int s = 0; s < x.count(0); s++) {
            see("round", x.round(s));
            see("plan", x.plan(s));
            see("answer", x.answer(s, 0));
            see("toll", x.toll(s));
        }
    }

    /** What can be told by a change alone is put back as it was. */
    private void net() {
        int all = (1 << x.count(1)) - 1;
        for (int s = 0; s < x.count(0); s++) {
            for (int j = 0; j < x.joint(s, all); j++) {
                see("leads", x.leads(s, j));
            }
            int letters = x.letters(s, 0);
            x.letters(s, letters);
            see("letters", letters);
            for (int p = 0; p < x.count(1); p++) {
                player(s, p);
            }
        }
    }

    private void player(int s, int p) {
        int heap = x.heap(p, s, 0);
        x.heap(p, s, heap);
        see("heap", heap);
        see("joint", x.joint(s, 1 << p));
        int chosen = x.choose(p, s, 0);
        x.choose(p, s, chosen);
        see("chosen", chosen);
        for (int move = 0; move < x.joint(s, 1 << p); move++) {
            int price = x.price(s, p, move, 0);
            x.price(s, p, move, price);
            see("price", price);
        }
    }

    private void lots() {
        int lot = x.lot(-1);
        x.lot(lot);
        see("lot", lot);
        for (int p = 0; p < x.count(1); p++) {
            int goal = x.goal(p, 0);
            x.goal(p, goal);
            see("goal", goal);
        }
    }

    /** How much stands on THE TAPE, and whether it is begun so that !b) ends it. */
    private void tape() {
        see("tape", x.type('!' << 16 | 'b' << 8 | ')', 3));
        see("form", x.form());
        see("form holds", x.holds());
        see("form part", x.part(1));
    }

    /** Items 0 to 11 as they are, others as NOT. */
    private void sheets() {
        x.net(12, 1);
        for (int sheet = 0; sheet < 4; sheet++) {
            for (int lane = 0; lane < 3; lane++) {
                int any = x.steps(0, sheet, lane, 0, 0);
                see("sheet", any);
                int n = any;
                for (int i = 0; any == 0 && n != ForceNet.INDEX; i++) {
                    n = x.steps(0, sheet, lane, i, 1);
                    see("item", n == 1 ? x.leads(0, 0) : n);
                }
            }
        }
    }
}
