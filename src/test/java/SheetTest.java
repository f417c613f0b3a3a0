/** Promises 33 to 36: SHEETS. Their items are seen through steps() and walk(). */
final class SheetTest {
    private static final Check C = new Check("sheet");

    public static void main(String[] args) {
        sheet();
        drop();
        item();
        copy();
        copyWrong();
        C.end();
    }

    /** An object in which the items of a SHEET can be looked at, 0 to 11 each. */
    private static ForceNet glass() {
        ForceNet x = new ForceNet();
        x.net(12, 1);
        return x;
    }

    private static int look(ForceNet x, int sheet, int lane, int i) {
        int n = x.steps(0, sheet, lane, i, 1);
        return n == 1 ? x.leads(0, 0) : n;
    }

    private static void sheet() {
        ForceNet x = glass();
        C.due("33 sheet", x.sheet(0, 0, 81), 81);
        C.due("33 items are 0", look(x, 0, 0, 80), 0);
        C.due("33 none behind", look(x, 0, 0, 81), ForceNet.INDEX);
        x.item(0, 0, 3, 7);
        C.due("33 a new one", x.sheet(0, 2, 4), 4);
        C.due("33 of another lane", look(x, 0, 0, 3), ForceNet.CAST);
        C.due("33 new items", look(x, 0, 2, 3), 0);
        for (int i = 0; i < 81; i++) {
            x.sheet(1, 0, 81);
            x.item(1, 0, i, 7);
            x.sheet(1, 0, 81);
            C.due("33 a new item " + i, look(x, 1, 0, i), 0);
        }
        C.due("33 an empty row", x.sheet(3, 1, 0), 0);
        C.due("33 of no items", look(x, 3, 1, 0), ForceNet.INDEX);
        C.due("33 SIZE", x.sheet(0, 0, -1), ForceNet.SIZE);
        C.due("33 SIZE", x.sheet(0, 0, Integer.MIN_VALUE), ForceNet.SIZE);
        C.due("33 BAD n", x.sheet(0, 0, 82), ForceNet.BAD);
        C.due("33 BAD n", x.sheet(0, 0, Integer.MAX_VALUE), ForceNet.BAD);
        int[][] wrong = {{4, 0}, {-1, 0}, {0, 3}, {0, -1}};
        for (int[] w : wrong) {
            C.due("33 BAD", x.sheet(w[0], w[1], 1), ForceNet.BAD);
            C.due("33 BAD ahead of SIZE", x.sheet(w[0], w[1], -1), ForceNet.BAD);
        }
        C.due("33 stays", x.drop(0), 4);
    }

    private static void drop() {
        ForceNet x = glass();
        x.sheet(1, 1, 9);
        x.sheet(2, 1, 0);
        C.due("34 drop", x.drop(1), 9);
        C.due("34 holds nothing", look(x, 1, 1, 0), ForceNet.NULL);
        C.due("34 NULL", x.drop(1), ForceNet.NULL);
        C.due("34 an empty row", x.drop(2), 0);
        C.due("34 NULL then", x.drop(2), ForceNet.NULL);
        C.due("34 NULL at first", x.drop(0), ForceNet.NULL);
        C.due("34 BAD", x.drop(4), ForceNet.BAD);
        C.due("34 BAD", x.drop(-1), ForceNet.BAD);
    }

    private static void item() {
        ForceNet x = glass();
        C.due("35 NULL", x.item(0, 0, 0, 0), ForceNet.NULL);
        for (int lane = 0; lane < 3; lane++) {
            x.sheet(lane, lane, 3);
            C.due("35 item", x.item(lane, lane, 2, 11), 1);
            C.due("35 it is there", look(x, lane, lane, 2), 11);
            C.due("35 no other", look(x, lane, lane, 1), 0);
            C.due("35 lowest bits", x.item(lane, lane, 0, 256 * 77 + 9), 1);
            C.due("35 lowest bits", look(x, lane, lane, 0), lane == 0 ? 9 : ForceNet.NOT);
            x.item(lane, lane, 0, 1 << 16);
            C.due("35 a bit above", look(x, lane, lane, 0), lane == 0 ? 0 : ForceNet.NOT);
            C.due("35 CAST", x.item(lane, (lane + 1) % 3, 0, 1), ForceNet.CAST);
            C.due("35 CAST ahead of INDEX", x.item(lane, (lane + 2) % 3, 5, 1), ForceNet.CAST);
            C.due("35 INDEX", x.item(lane, lane, 3, 1), ForceNet.INDEX);
            C.due("35 INDEX", x.item(lane, lane, -1, 1), ForceNet.INDEX);
            C.due("35 INDEX", x.item(lane, lane, Integer.MAX_VALUE, 1), ForceNet.INDEX);
            C.due("35 INDEX", x.item(lane, lane, Integer.MIN_VALUE, 1), ForceNet.INDEX);
        }
        int[][] wrong = {{4, 0}, {-1, 0}, {0, 3}, {0, -1}};
        for (int[] w : wrong) {
            C.due("35 BAD", x.item(w[0], w[1], 0, 1), ForceNet.BAD);
        }
        // Bytes from 128 on are below 0: no JOINT MOVES of others, and no STATES.
        Check.read(x, "<>XT");
        x.item(0, 0, 0, 127);
        C.due("35 127", x.walk(0, 0, 0, 0, 1) < 0 ? 0 : 1, 1);
        x.item(0, 0, 0, 128);
        C.due("35 128", x.walk(0, 0, 0, 0, 1), ForceNet.NOT);
        x.item(1, 1, 0, 128);
        C.due("35 an int", x.walk(0, 1, 1, 0, 1) < 0 ? 0 : 1, 1);
        x.item(2, 2, 0, Integer.MIN_VALUE);
        C.due("35 a long keeps the sign", x.walk(0, 2, 2, 0, 1), ForceNet.NOT);
    }

    private static void fill(ForceNet x, int sheet, int lane, int... items) {
        x.sheet(sheet, lane, items.length);
        for (int i = 0; i < items.length; i++) {
            x.item(sheet, lane, i, items[i]);
        }
    }

    private static void same(String call, ForceNet x, int sheet, int lane, int... items) {
        for (int i = 0; i < items.length; i++) {
            C.due(call + " item " + i, look(x, sheet, lane, i), items[i]);
        }
        C.due(call + " items", look(x, sheet, lane, items.length), ForceNet.INDEX);
    }

    private static void copy() {
        for (int lane = 0; lane < 3; lane++) {
            ForceNet x = glass();
            fill(x, 0, lane, 1, 2, 3, 4, 5);
            fill(x, 3, lane, 9, 9, 9, 9);
            C.due("36 copy", x.copy(0, 1, 3, 0, 3), 3);
            same("36 to", x, 3, lane, 2, 3, 4, 9);
            same("36 from", x, 0, lane, 1, 2, 3, 4, 5);
            C.due("36 up", x.copy(0, 0, 0, 1, 4), 4);
            same("36 up", x, 0, lane, 1, 1, 2, 3, 4);
            C.due("36 down", x.copy(0, 2, 0, 0, 3), 3);
            same("36 down", x, 0, lane, 2, 3, 4, 3, 4);
            C.due("36 all of it", x.copy(3, 0, 0, 1, 4), 4);
            same("36 all of it", x, 0, lane, 2, 2, 3, 4, 9);
            C.due("36 nothing", x.copy(0, 5, 3, 4, 0), 0);
            same("36 nothing", x, 3, lane, 2, 3, 4, 9);
        }
    }

    private static void copyWrong() {
        ForceNet x = glass();
        fill(x, 0, 0, 1, 2, 3);
        fill(x, 1, 0, 4, 5);
        fill(x, 2, 1, 6, 7, 8);
        int[][] index = {{0, 0, 1, 0, 3}, {0, 2, 1, 0, 2}, {0, 0, 1, 1, 2}, {0, -1, 1, 0, 1}, {0, 0, 1, -1, 1}, {0, 0, 1, 0, -1}, {0, 4, 1, 0, 0},
            {0, 0, 1, 3, 0}, {0, -1, 1, 0, 0}, {0, 0, 1, -1, 0}, {0, 1, 1, 1, Integer.MAX_VALUE}, {0, Integer.MAX_VALUE, 1, 0, 1},
            {0, 0, 1, Integer.MAX_VALUE, 1}, {0, Integer.MIN_VALUE, 1, 0, 1}, {0, 0, 1, 0, Integer.MIN_VALUE}};
        for (int[] w : index) {
            C.due("36 INDEX", x.copy(w[0], w[1], w[2], w[3], w[4]), ForceNet.INDEX);
        }
        C.due("36 CAST", x.copy(0, 0, 2, 0, 1), ForceNet.CAST);
        C.due("36 CAST ahead of INDEX", x.copy(2, 9, 0, 9, -1), ForceNet.CAST);
        C.due("36 NULL to", x.copy(0, 0, 3, 0, 1), ForceNet.NULL);
        C.due("36 NULL from", x.copy(3, 0, 0, 0, 1), ForceNet.NULL);
        C.due("36 NULL ahead of INDEX", x.copy(3, -1, 2, 0, -1), ForceNet.NULL);
        int[][] bad = {{-1, 3}, {4, 3}, {3, -1}, {3, 4}};
        for (int[] w : bad) {
            C.due("36 BAD", x.copy(w[0], 0, w[1], 0, -1), ForceNet.BAD);
        }
        same("36 stays", x, 0, 0, 1, 2, 3);
        same("36 stays", x, 1, 0, 4, 5);
        same("36 stays", x, 2, 1, 6, 7, 8);
    }
}
