/** Objects that tests begin with. */
final class Made {
    private Made() {
    }

    /** Three STATES, two PLAYERS, nothing of it as at first; THE FORM is <0>(aUb), a walk was told, THE TAPE has four bytes. */
    static ForceNet rich() {
        ForceNet x = untyped();
        Check.type(x, "(!a&");
        return x;
    }

    /** The same with nothing on THE TAPE. */
    static ForceNet untyped() {
        ForceNet x = new ForceNet();
        x.net(3, 2);
        x.moves(0, 0, 2);
        x.moves(0, 1, 3);
        x.moves(1, 0, 3);
        x.moves(2, 1, 2);
        for (int j = 0; j < 6; j++) {
            x.step(0, j, (j + 1) % 3);
        }
        x.step(1, 0, 2);
        x.step(1, 2, 0);
        x.step(2, 1, 1);
        x.letters(0, 1);
        x.letters(1, 255);
        x.letters(2, 129);
        x.heap(0, 1, 0);
        x.heap(1, 2, 11);
        dear(x);
        sheets(x);
        Check.read(x, "<0>(aUb)");
        x.walk(0, 1, 1, 0, 3);
        return x;
    }

    private static void dear(ForceNet x) {
        x.price(0, 0, 1, 9);
        x.price(0, 1, 2, 8);
        x.price(1, 0, 0, 7);
        x.price(2, 1, 1, 1);
        x.choose(0, 0, 1);
        x.choose(1, 0, 2);
        x.choose(0, 1, 1);
        x.lot(1);
        x.goal(0, 4);
        x.goal(1, 3);
    }

    /** 0: bytes, 1: ints, 2: nothing, 3: no longs. */
    private static void sheets(ForceNet x) {
        fill(x, 0, 0, 1, 2, 0, 200, 2);
        fill(x, 1, 1, 5, 1, 7, 2);
        x.sheet(3, 2, 0);
    }

    static void fill(ForceNet x, int sheet, int lane, int... items) {
        x.sheet(sheet, lane, items.length);
        for (int i = 0; i < items.length; i++) {
            x.item(sheet, lane, i, items[i]);
        }
    }

    /** As rich(), but another FORM was read ahead of what stands on THE TAPE. */
    static ForceNet rich(String form) {
        ForceNet x = untyped();
        Check.read(x, form);
        Check.type(x, "(!a&");
        return x;
    }

    /** A net in which all is as at first. */
    static ForceNet plain(int states, int players) {
        ForceNet x = new ForceNet();
        x.net(states, players);
        return x;
    }

    /** The same, with a FORM. */
    static ForceNet plain(int states, int players, String form) {
        ForceNet x = plain(states, players);
        Check.read(x, form);
        return x;
    }
}
