/** Each sentence on SHEETS in the part ==== 1 and of the promises 33 to 36 that names an edge: a test of its own. */
final class SheetEdgeTest {
    private static final Check C = new Check("sheet edges");
    private static final Edge E = new Edge(C);
    private static final int BAD = ForceNet.BAD, NULL = ForceNet.NULL, CAST = ForceNet.CAST, INDEX = ForceNet.INDEX, SIZE = ForceNet.SIZE;

    public static void main(String[] args) {
        sheetRange();
        sheetSize();
        sheetOfEachLength();
        sheetItemsAreNew();
        sheetBesideOthers();
        dropRange();
        dropNull();
        dropHowMany();
        itemRange();
        itemNull();
        itemCast();
        itemIndex();
        itemLowestBits();
        itemOfEach();
        copyRange();
        copyNull();
        copyCast();
        copyIndex();
        copyOfNothing();
        copyOfAll();
        copyAsIfTakenAhead();
        copyKeepsSigns();
        sheetsByNet();
        C.end();
    }

    /** Twelve STATES, one PLAYER: items 0 to 11 can be seen by steps(). */
    private static ForceNet glass() {
        return Made.plain(12, 1);
    }

    private static int look(ForceNet x, int sheet, int lane, int i) {
        int n = x.steps(0, sheet, lane, i, 1);
        return n == 1 ? x.leads(0, 0) : n;
    }

    private static void same(String name, ForceNet x, int sheet, int lane, int... items) {
        for (int i = 0; i < items.length; i++) {
            C.due(name + ": item " + i, look(x, sheet, lane, i), items[i]);
        }
        C.due(name + ": no more items", look(x, sheet, lane, items.length), INDEX);
    }

    // ---- sheet()

    /** "SHEETS 0 .. 3", "a LANE: 0 .., 1 .., 2 ..", "BAD: also n above 81" */
    private static void sheetRange() {
        E.range("33 SHEET", Made::rich, 0, 3, BAD, (x, sheet) -> x.sheet(sheet, 0, 4));
        E.range("33 LANE", Made::rich, 0, 2, BAD, (x, lane) -> x.sheet(0, lane, 4));
        for (int n : new int[] {82, 83, 96, 128, 337, 65536 + 81, Integer.MAX_VALUE, Integer.MAX_VALUE - 1}) {
            E.refused("33 n " + n, Made::rich, BAD, (x, any) -> x.sheet(0, 0, n));
        }
        E.refused("33 BAD SHEET ahead of SIZE", Made::rich, BAD, (x, n) -> x.sheet(4, 0, -1));
        E.refused("33 BAD LANE ahead of SIZE", Made::rich, BAD, (x, n) -> x.sheet(0, 3, -1));
    }

    /** "SIZE: n below 0": what the SHEET held stays. */
    private static void sheetSize() {
        for (int n : new int[] {-1, -2, -81, -82, -128, Integer.MIN_VALUE, Integer.MIN_VALUE + 1}) {
            for (int sheet = 0; sheet < 4; sheet++) {
                int into = sheet;
                E.refused("33 SIZE " + n + " of SHEET " + sheet, Made::rich, SIZE, (x, any) -> x.sheet(into, 1, n));
            }
        }
    }

    /** "of 0 to 81 items (0 at first)": n, each of them 0, in each LANE. */
    private static void sheetOfEachLength() {
        for (int lane = 0; lane < 3; lane++) {
            for (int n = 0; n <= 81; n++) {
                ForceNet x = glass();
                C.due("33 n " + n + " of LANE " + lane, x.sheet(3, lane, n), n);
                for (int i = 0; i < n; i++) {
                    C.due("33 an item of " + n, look(x, 3, lane, i), 0);
                }
                C.due("33 no more than " + n, look(x, 3, lane, n), INDEX);
                C.due("34 it had " + n, x.drop(3), n);
            }
        }
    }

    /** "A SHEET holds a new row": nothing of the former one is left, neither by a longer, nor by a shorter, nor by another LANE. */
    private static void sheetItemsAreNew() {
        for (int lane = 0; lane < 3; lane++) {
            ForceNet x = glass();
            Made.fill(x, 1, lane, 7, 8, 9);
            x.sheet(1, lane, 2);
            same("33 a shorter one", x, 1, lane, 0, 0);
            Made.fill(x, 1, lane, 7, 8);
            x.sheet(1, lane, 4);
            same("33 a longer one", x, 1, lane, 0, 0, 0, 0);
            Made.fill(x, 1, lane, 7, 8, 9);
            x.drop(1);
            x.sheet(1, lane, 3);
            same("33 behind a drop()", x, 1, lane, 0, 0, 0);
            Made.fill(x, 1, lane, 7, 8, 9);
            int other = (lane + 1) % 3;
            x.sheet(1, other, 3);
            C.due("33 of another LANE", look(x, 1, lane, 0), CAST);
            same("33 of another LANE", x, 1, other, 0, 0, 0);
        }
    }

    /** Full rows on all SHEETS: none runs into the one beside it. */
    private static void sheetBesideOthers() {
        ForceNet x = glass();
        for (int sheet = 0; sheet < 4; sheet++) {
            x.sheet(sheet, 1, 81);
            x.item(sheet, 1, 0, sheet + 1);
            x.item(sheet, 1, 80, sheet + 5);
        }
        for (int sheet = 0; sheet < 4; sheet++) {
            C.due("33 first of SHEET " + sheet, look(x, sheet, 1, 0), sheet + 1);
            C.due("33 last of SHEET " + sheet, look(x, sheet, 1, 80), sheet + 5);
        }
        x.sheet(1, 1, 81);
        C.due("33 the SHEET ahead of it", look(x, 0, 1, 80), 5);
        C.due("33 the SHEET behind it", look(x, 2, 1, 0), 3);
        x.drop(2);
        C.due("34 the SHEET behind it", look(x, 3, 1, 0), 4);
    }

    // ---- drop()

    private static void dropRange() {
        E.range("34 SHEET", Made::rich, 0, 3, BAD, (x, sheet) -> x.drop(sheet));
    }

    /** "NULL": it holds nothing: at first, and behind a drop(); an empty row is not nothing. */
    private static void dropNull() {
        for (int sheet = 0; sheet < 4; sheet++) {
            ForceNet x = new ForceNet();
            C.due("34 nothing at first", x.drop(sheet), NULL);
            x.sheet(sheet, 2, 0);
            C.due("34 an empty row", x.drop(sheet), 0);
            C.due("34 nothing then", x.drop(sheet), NULL);
            C.due("34 nothing to take steps from", x.steps(0, sheet, 2, 0, 0), NULL);
            C.due("34 nothing to write on", x.item(sheet, 2, 0, 0), NULL);
        }
        E.refused("34 NULL", Made::rich, NULL, (x, n) -> x.drop(2));
    }

    /** "how many items it had" */
    private static void dropHowMany() {
        ForceNet x = new ForceNet();
        int[] sizes = {0, 1, 80, 81};
        for (int sheet = 0; sheet < 4; sheet++) {
            x.sheet(sheet, sheet % 3, sizes[sheet]);
        }
        for (int sheet = 0; sheet < 4; sheet++) {
            C.due("34 how many", x.drop(sheet), sizes[sheet]);
        }
    }

    // ---- item()

    private static void itemRange() {
        E.range("35 SHEET", Made::rich, 0, 3, BAD, (x, sheet) -> x.item(sheet, 0, 0, 9));
        E.range("35 LANE", Made::rich, 0, 2, BAD, (x, lane) -> x.item(0, lane, 0, 9));
        E.refused("35 BAD LANE ahead of NULL", Made::rich, BAD, (x, n) -> x.item(2, 3, 0, 9));
    }

    private static void itemNull() {
        for (int lane = 0; lane < 3; lane++) {
            int as = lane;
            E.refused("35 NULL", Made::rich, NULL, (x, n) -> x.item(2, as, 0, 9));
            E.refused("35 NULL ahead of INDEX", Made::rich, NULL, (x, n) -> x.item(2, as, -1, 9));
        }
    }

    /** "CAST": each LANE taken as each other one; ahead of INDEX; an empty row has a LANE, too. */
    private static void itemCast() {
        for (int lane = 0; lane < 3; lane++) {
            for (int as = 0; as < 3; as++) {
                ForceNet x = glass();
                x.sheet(0, lane, 1);
                C.due("35 LANE " + lane + " as " + as, x.item(0, as, 0, 5), lane == as ? 1 : CAST);
                C.due("35 LANE " + lane + " as " + as + ", no such item", x.item(0, as, 1, 5), lane == as ? INDEX : CAST);
                same("35 LANE " + lane + " as " + as, x, 0, lane, lane == as ? 5 : 0);
            }
        }
        E.refused("35 CAST of an empty row", Made::rich, CAST, (x, n) -> x.item(3, 0, 0, 9));
        E.refused("35 CAST", Made::rich, CAST, (x, n) -> x.item(0, 1, 0, 9));
    }

    /** "INDEX": the item is not there; the greatest place is 80. */
    private static void itemIndex() {
        E.range("35 i of five", Made::rich, 0, 4, INDEX, (x, i) -> x.item(0, 0, i, 9));
        E.range("35 i of four", Made::rich, 0, 3, INDEX, (x, i) -> x.item(1, 1, i, 9));
        E.range("35 i of none", Made::rich, 0, -1, INDEX, (x, i) -> x.item(3, 2, i, 9));
        ForceNet x = glass();
        x.sheet(2, 2, 81);
        C.due("35 place 80", x.item(2, 2, 80, 4), 1);
        C.due("35 place 81", x.item(2, 2, 81, 4), INDEX);
    }

    /** "becomes v, its lowest bits": eight of a byte, with their sign; all of an int, and of a long, which keeps the sign. */
    private static void itemLowestBits() {
        int[] values = {0, 1, 11, 12, 127, 128, 129, 255, 256, 257, 267, 268, 511, 512, -1, -128, -129, -256, -255, -245, -244, 1 << 16, (1 << 16) + 3, 1 << 24, 1 << 31,
            (1 << 31) + 3, Integer.MAX_VALUE};
        for (int v : values) {
            for (int lane = 0; lane < 3; lane++) {
                ForceNet x = glass();
                x.sheet(0, lane, 2);
                C.due("35 v " + v + " of LANE " + lane, x.item(0, lane, 0, v), 1);
                int kept = lane == 0 ? (v << 24) >> 24 : v;
                C.due("35 v " + v + " of LANE " + lane + " is there", look(x, 0, lane, 0), kept >= 0 && kept < 12 ? kept : ForceNet.NOT);
                C.due("35 no other by " + v, look(x, 0, lane, 1), 0);
                Check.read(x, "<>FT");
                C.due("35 below 0 by " + v + " of LANE " + lane, x.walk(5, 0, lane, 0, 1), kept < 0 ? ForceNet.NOT : 5);
            }
        }
    }

    /** Item i alone: each of 81. */
    private static void itemOfEach() {
        for (int lane = 0; lane < 3; lane++) {
            ForceNet x = glass();
            x.sheet(3, lane, 81);
            for (int i = 0; i < 81; i++) {
                C.due("35 item " + i, x.item(3, lane, i, i % 12), 1);
            }
            for (int i = 0; i < 81; i++) {
                C.due("35 item " + i + " is there", look(x, 3, lane, i), i % 12);
            }
        }
    }

    // ---- copy()

    private static void copyRange() {
        E.range("36 from", Made::rich, 0, 3, BAD, (x, from) -> x.copy(from, 0, 0, 0, 1));
        E.range("36 to", Made::rich, 0, 3, BAD, (x, to) -> x.copy(0, 0, to, 0, 1));
        E.refused("36 BAD from ahead of NULL to", Made::rich, BAD, (x, n) -> x.copy(4, 0, 2, 0, 1));
        E.refused("36 BAD to ahead of NULL from", Made::rich, BAD, (x, n) -> x.copy(2, 0, 4, 0, 1));
        E.refused("36 BAD ahead of INDEX", Made::rich, BAD, (x, n) -> x.copy(0, -1, -1, -1, -1));
    }

    /** "NULL (either)": ahead of INDEX. */
    private static void copyNull() {
        E.refused("36 NULL from", Made::rich, NULL, (x, n) -> x.copy(2, 0, 0, 0, 1));
        E.refused("36 NULL to", Made::rich, NULL, (x, n) -> x.copy(0, 0, 2, 0, 1));
        E.refused("36 NULL both", Made::rich, NULL, (x, n) -> x.copy(2, 0, 2, 0, 0));
        E.refused("36 NULL ahead of INDEX", Made::rich, NULL, (x, n) -> x.copy(2, -1, 0, 9, -1));
        E.refused("36 NULL ahead of INDEX", Made::rich, NULL, (x, n) -> x.copy(0, -1, 2, 9, -1));
    }

    /** "CAST: of unlike LANES": ahead of INDEX, of no items, too. */
    private static void copyCast() {
        for (int one = 0; one < 3; one++) {
            for (int other = 0; other < 3; other++) {
                ForceNet x = glass();
                Made.fill(x, 0, one, 3, 4);
                Made.fill(x, 1, other, 5, 6);
                C.due("36 LANE " + one + " to " + other, x.copy(0, 0, 1, 1, 1), one == other ? 1 : CAST);
                same("36 LANE " + one + " to " + other, x, 1, other, 5, one == other ? 3 : 6);
                C.due("36 of no items", x.copy(0, 0, 1, 0, 0), one == other ? 0 : CAST);
                C.due("36 CAST ahead of INDEX", x.copy(0, 9, 1, 9, -1), one == other ? INDEX : CAST);
            }
        }
        E.refused("36 CAST", Made::rich, CAST, (x, n) -> x.copy(0, 0, 1, 0, 1));
    }

    /** "INDEX (n below 0, too ..)": from, to, n, each beyond its edge, and where two of them together are no int. */
    private static void copyIndex() {
        E.range("36 i, n 1", SheetEdgeTest::twoRows, 0, 4, INDEX, (x, i) -> x.copy(0, i, 2, 0, 1));
        E.range("36 j, n 1", SheetEdgeTest::twoRows, 0, 2, INDEX, (x, j) -> x.copy(0, 0, 2, j, 1));
        E.range("36 n from 0 to 0", SheetEdgeTest::twoRows, 0, 3, INDEX, (x, n) -> x.copy(0, 0, 2, 0, n));
        E.range("36 n from 3 to 0", SheetEdgeTest::twoRows, 0, 2, INDEX, (x, n) -> x.copy(0, 3, 2, 0, n));
        E.range("36 n from 0 to 2", SheetEdgeTest::twoRows, 0, 1, INDEX, (x, n) -> x.copy(0, 0, 2, 2, n));
        E.range("36 n from 1 on one SHEET", SheetEdgeTest::twoRows, 0, 4, INDEX, (x, n) -> x.copy(0, 1, 0, 0, n));
        E.refused("36 i and n are no int", SheetEdgeTest::twoRows, INDEX, (x, n) -> x.copy(0, Integer.MAX_VALUE, 2, 0, 3));
        E.refused("36 j and n are no int", SheetEdgeTest::twoRows, INDEX, (x, n) -> x.copy(0, 0, 2, Integer.MAX_VALUE, 3));
        E.refused("36 n below 0 from beyond", SheetEdgeTest::twoRows, INDEX, (x, n) -> x.copy(0, 6, 2, 1, -1));
    }

    /** 0: five bytes, 2: three bytes. */
    private static ForceNet twoRows() {
        ForceNet x = Made.rich();
        Made.fill(x, 2, 0, 6, 7, 8);
        return x;
    }

    /** "with n 0, too, if i or j is above how many there are" */
    private static void copyOfNothing() {
        E.range("36 i, n 0", SheetEdgeTest::twoRows, 0, 5, INDEX, (x, i) -> x.copy(0, i, 2, 0, 0));
        E.range("36 j, n 0", SheetEdgeTest::twoRows, 0, 3, INDEX, (x, j) -> x.copy(0, 0, 2, j, 0));
        E.refused("36 nothing changes nothing", SheetEdgeTest::twoRows, 0, (x, n) -> x.copy(0, 0, 2, 0, 0));
        E.refused("36 nothing at both ends", SheetEdgeTest::twoRows, 0, (x, n) -> x.copy(0, 5, 2, 3, 0));
        E.range("36 an empty row, n", Made::rich, 0, 0, INDEX, (x, n) -> x.copy(3, 0, 3, 0, n));
        E.range("36 an empty row, i", Made::rich, 0, 0, INDEX, (x, i) -> x.copy(3, i, 3, 0, 0));
    }

    /** All 81 at once; the SHEETS beside them stay. */
    private static void copyOfAll() {
        for (int lane = 0; lane < 3; lane++) {
            ForceNet x = glass();
            x.sheet(0, lane, 81);
            x.sheet(1, lane, 81);
            x.sheet(2, lane, 81);
            for (int i = 0; i < 81; i++) {
                x.item(0, lane, i, 1 + i % 11);
            }
            C.due("36 all 81", x.copy(0, 0, 1, 0, 81), 81);
            for (int i = 0; i < 81; i++) {
                C.due("36 item " + i, look(x, 1, lane, i), 1 + i % 11);
            }
            C.due("36 the SHEET beside it", look(x, 2, lane, 0), 0);
            C.due("36 82 of them", x.copy(0, 0, 1, 0, 82), INDEX);
        }
    }

    /** "(or the same) .., as if all were taken ahead": up and down by each distance. */
    private static void copyAsIfTakenAhead() {
        for (int lane = 0; lane < 3; lane++) {
            for (int i = 0; i <= 6; i++) {
                for (int j = 0; j <= 6; j++) {
                    for (int n = 0; n <= 6 - Math.max(i, j); n++) {
                        ForceNet x = glass();
                        Made.fill(x, 2, lane, 1, 2, 3, 4, 5, 6);
                        int[] due = {1, 2, 3, 4, 5, 6};
                        for (int k = 0; k < n; k++) {
                            due[j + k] = 1 + i + k;
                        }
                        C.due("36 " + n + " from " + i + " to " + j, x.copy(2, i, 2, j, n), n);
                        same("36 " + n + " from " + i + " to " + j, x, 2, lane, due);
                    }
                }
            }
        }
    }

    /** Items below 0, and such as no STATE has, come over as they are. */
    private static void copyKeepsSigns() {
        for (int lane = 0; lane < 3; lane++) {
            ForceNet x = glass();
            Check.read(x, "<>FT");
            Made.fill(x, 0, lane, -1, 127, Integer.MIN_VALUE);
            x.sheet(1, lane, 3);
            C.due("36 three", x.copy(0, 0, 1, 0, 3), 3);
            C.due("36 below 0", x.walk(0, 1, lane, 0, 1), ForceNet.NOT);
            C.due("36 above 0", x.walk(0, 1, lane, 1, 1), 0);
            C.due("36 no STATE", x.steps(0, 1, lane, 1, 1), ForceNet.NOT);
            C.due("36 the least int, as a byte 0", x.walk(0, 1, lane, 2, 1), lane == 0 ? 0 : ForceNet.NOT);
        }
    }

    /** net() is told of the net: SHEETS stay. */
    private static void sheetsByNet() {
        ForceNet x = glass();
        Made.fill(x, 0, 0, 1, 2);
        x.net(12, 4);
        same("2 SHEETS stay", x, 0, 0, 1, 2);
        C.due("2 nothing stays nothing", x.drop(1), NULL);
    }
}
