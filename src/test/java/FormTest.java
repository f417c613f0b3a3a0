import java.util.ArrayList;
import java.util.List;
import java.util.Random;

/** Promises 11 to 15: THE TAPE, FORMS, where they HOLD. */
final class FormTest {
    private static final Check C = new Check("form");

    public static void main(String[] args) {
        type();
        form();
        parts();
        byChance();
        holds();
        part();
        force();
        C.end();
    }

    private static void type() {
        ForceNet x = new ForceNet();
        C.due("11 n 0", x.type('a', 0), ForceNet.BAD);
        C.due("11 n 9", x.type('a', 9), ForceNet.BAD);
        C.due("11 n -1", x.type('a', -1), ForceNet.BAD);
        C.due("11 byte 31", x.type(31, 1), ForceNet.BAD);
        C.due("11 byte 127", x.type(127, 1), ForceNet.BAD);
        C.due("11 byte 255", x.type(-1L, 8), ForceNet.BAD);
        C.due("11 one of two", x.type('a', 2), ForceNet.BAD);
        C.due("11 one of two", x.type('a' << 8 | 7, 2), ForceNet.BAD);
        C.due("11 nothing came", x.type(126, 1), 1);
        C.due("11 the blank", x.type(32, 1), 2);
        C.due("11 the lowest only", x.type(0xFF00L << 8 | 'a', 1), 3);
        C.due("11 form", x.form(), -20);
        C.due("11 empty again", x.type((long) '!' << 56 | (long) '!' << 48 | 0x202020202061L, 8), 8);
        C.due("11 the highest first", x.form(), 3);
        for (int i = 1; i <= 99; i++) {
            C.due("11 to 99", x.type('!', 1), i);
        }
        C.due("11 FULL", x.type('!' << 8 | '!', 2), ForceNet.FULL);
        C.due("11 BAD ahead of FULL", x.type('!' << 8 | 1, 2), ForceNet.BAD);
        C.due("11 100", x.type('!', 1), 100);
        C.due("11 FULL at 100", x.type('!', 1), ForceNet.FULL);
        C.due("11 form of 100", x.form(), -44);
        C.due("11 empty by a fault", x.type('a', 1), 1);
    }

    private static void form() {
        ForceNet x = new ForceNet();
        C.due("12 of nothing", x.form(), -20);
        C.due("12 a", Check.read(x, "a"), 1);
        C.due("12 stays", Check.read(x, "(a&"), -23);
        C.due("12 count", x.count(2), 1);
        C.due("12 taken", x.form(), -20);
        String[] right = {"T", "a", "h", "!a", "(a&b)", "(a|T)", "<>Xa", "<0>Ga", "<1>Fa", "<01>Ia", "<0>(aUb)", " < 0 1 > ( a U ( b | c ) ) ", "!!!T"};
        int[] count = {1, 1, 1, 2, 3, 3, 2, 2, 2, 2, 3, 5, 4};
        for (int i = 0; i < right.length; i++) {
            C.due("12 " + right[i], Check.read(x, right[i]), count[i]);
            C.due("12 count " + right[i], x.count(2), count[i]);
        }
        String[] wrong = {"", " ", "i", "Ta", "a b", "a  ", "!", "! ", "(a)", "(a&b", "(a&b))", "(aUb)", "<0>(a&b)", "<0>(a|b)", "<0>a", "<0>",
            "<", "<0", "<00>Xa", "<10>Xa", "<2>Xa", "<012>Xa", "<9>Xa", "<a>Xa", "X a", "<0>X", "<0>XU", "<0>(aUb", "<0> X !", "( a & X )",
            "()", "<>", "<0>Y", "tT", "A", "0", "(a&b)c", "<0>!a", "(<0>Xa U b)"};
        int[] fault = {-20, -21, -20, -21, -22, 1, -21, -22, -22, -24, -25, -22, -25, -25, -23, -23,
            -21, -22, -22, -22, -21, -23, -21, -21, -20, -24, -24, -27, -27, -26,
            -21, -22, -23, -20, -20, -20, -25, -23, -27};
        for (int i = 0; i < wrong.length; i++) {
            C.due("12 '" + wrong[i] + "'", Check.read(x, wrong[i]), fault[i]);
        }
        ForceNet y = new ForceNet();
        y.net(2, 1);
        C.due("12 player 1 of one", Check.read(y, "<1>Xa"), -21);
        y.net(2, 4);
        C.due("12 all four", Check.read(y, "<0123>Xa"), 2);
        C.due("12 a fifth", Check.read(y, "<01234>Xa"), -25);
        C.due("12 a fifth again", Check.read(y, "<01233>Xa"), -25);
    }

    private static void parts() {
        ForceNet x = new ForceNet();
        String deep = "!".repeat(23);
        C.due("12 24 parts", Check.read(x, deep + "a"), 24);
        C.due("12 25 parts", Check.read(x, "!" + deep + "a"), -44);
        C.due("12 25 parts", Check.read(x, "!" + deep + " <0>Xa"), -45);
        C.due("12 the end first", Check.read(x, "!" + deep), -44);
        String laws = "<0>(T U ".repeat(11) + "<>Xa" + ")".repeat(11);
        C.due("12 U's as parts", Check.read(x, laws.replace(" ", "")), 24);
        C.due("12 a 25th in a U", Check.read(x, laws.replace(" ", "").replace("Xa", "X!a")), -(20 + 11 * 6 + 4));
        String wide = "(" + "(".repeat(10) + "a" + "&b)".repeat(10) + "|c)";
        C.due("12 23 parts", Check.read(x, wide), 23);
        C.due("12 the 25th", Check.read(x, wide.replace("c)", "!!c)")), -(20 + wide.length()));
    }

    /** Texts by chance, hurt a little, against a reader that keeps a pile of what is due. */
    private static void byChance() {
        Random chance = new Random(5);
        String signs = "Tabh!(&|)<>0123XGFIU xY";
        for (int turn = 0; turn < 20000; turn++) {
            int players = 1 + chance.nextInt(4);
            ForceNet x = new ForceNet();
            x.net(3, players);
            StringBuilder text = new StringBuilder(Tree.any(chance, 1 + chance.nextInt(6), players).text());
            for (int k = chance.nextInt(3); k > 0; k--) {
                int at = chance.nextInt(text.length());
                char sign = signs.charAt(chance.nextInt(signs.length()));
                switch (chance.nextInt(4)) {
                    case 0 -> text.setCharAt(at, sign);
                    case 1 -> text.insert(at, sign);
                    case 2 -> text.insert(at, ' ');
                    default -> text.setLength(Math.max(at, 1));
                }
            }
            if (text.length() <= 100) {
                C.due("12 " + players + " '" + text + "'", Check.read(x, text.toString()), piled(text.toString(), players));
            }
        }
    }

    /** F: a FORM, L: what stands behind a GROUP, digits: what may stand in a GROUP, c: & or |; others themselves. */
    private static int piled(String text, int players) {
        List<Character> pile = new ArrayList<>(List.of('F'));
        int parts = 0;
        for (int i = 0; i < text.length(); i++) {
            char sign = text.charAt(i);
            if (sign == ' ') {
                continue;
            }
            if (pile.isEmpty()) {
                return -20 - i;
            }
            char due = pile.remove(pile.size() - 1);
            String next;
            if (due == 'F') {
                parts++;
                next = sign == 'T' || sign >= 'a' && sign <= 'h' ? "" : sign == '!' ? "F" : sign == '(' ? ")FcF" : sign == '<' ? "L0" : null;
                next = parts > 24 ? null : next;
            } else if (due == 'L') {
                next = "XGFI".indexOf(sign) >= 0 ? "F" : sign == '(' ? ")FUF" : null;
            } else if (due == 'c') {
                next = sign == '&' || sign == '|' ? "" : null;
            } else if (due >= '0' && due <= '4') {
                next = sign == '>' ? "" : sign >= due && sign < '0' + players ? String.valueOf((char) (sign + 1)) : null;
            } else {
                next = sign == due ? "" : null;
            }
            if (next == null) {
                return -20 - i;
            }
            for (char c : next.toCharArray()) {
                pile.add(c);
            }
        }
        return pile.isEmpty() ? parts : -20 - text.length();
    }

    /** Two PLAYERS, each of whom has two MOVES in STATE 0: they go on to 1 where these are alike, else to 2. */
    private static ForceNet pennies() {
        ForceNet x = new ForceNet();
        x.moves(0, 0, 2);
        x.moves(0, 1, 2);
        x.step(0, 0, 1);
        x.step(0, 1, 2);
        x.step(0, 2, 2);
        x.step(0, 3, 1);
        x.step(1, 0, 3);
        x.step(3, 0, 1);
        x.letters(1, 1);
        x.letters(2, 2);
        x.letters(3, 4);
        return x;
    }

    private static void holds() {
        ForceNet x = pennies();
        String[] text = {"T", "!T", "a", "!a", "(a|b)", "(a&b)", "<0>Xa", "<1>Xa", "<01>Xa", "<>Xa", "<>X(a|b)", "<01>Xb", "<0>Fa", "<01>Fa",
            "<>Ga", "<>G(a|c)", "<01>G!b", "<0>G!b", "<>Ia", "<01>Ia", "<0>Ia", "<>Ib", "<01>Ib", "<01>(!aUb)", "<01>(aUb)", "<>(aUc)", "<>F<>Xc", "!<>X!a"};
        int[] due = {15, 0, 2, 13, 6, 0, 8, 8, 9, 8, 13, 5, 10, 11,
            0, 10, 11, 10, 10, 11, 10, 4, 5, 5, 4, 10, 10, 9};
        for (int i = 0; i < text.length; i++) {
            Check.read(x, text[i]);
            C.due("13 " + text[i], x.holds(), due[i]);
        }
        // THE FORM stays told by what the net is now.
        Check.read(x, "<>Ga");
        x.letters(3, 1);
        C.due("13 a later letter", x.holds(), 10);
        x.step(1, 0, 2);
        C.due("13 a later step", x.holds(), 0);
        x.moves(1, 1, 2);
        C.due("13 later moves", x.holds(), 10);
        x.sheet(0, 0, 1);
        x.steps(1, 0, 0, 0, 1);
        C.due("13 later steps", x.holds(), 0);
    }

    private static void part() {
        ForceNet x = pennies();
        Check.read(x, " ( <01>(!a U b) | ! (a & <>X c) ) ");
        int[] due = {13, 5, 13, 2, 4, 13, 2, 2, 2, 8};
        for (int k = 0; k < due.length; k++) {
            C.due("14 part " + k, x.part(k), due[k]);
        }
        C.due("14 BAD", x.part(due.length), ForceNet.BAD);
        C.due("14 BAD", x.part(-1), ForceNet.BAD);
        C.due("14 BAD", x.part(Integer.MIN_VALUE), ForceNet.BAD);
        Check.read(x, "a");
        C.due("14 BAD", x.part(1), ForceNet.BAD);
    }

    private static void force() {
        ForceNet x = pennies();
        C.due("15 one alone", x.force(0, 1, 2), 0);
        C.due("15 the other", x.force(0, 2, 2), 0);
        C.due("15 both", x.force(0, 3, 2), 1);
        C.due("15 both, otherwise", x.force(0, 3, 4), 1);
        C.due("15 nobody", x.force(0, 0, 6), 1);
        C.due("15 nobody", x.force(0, 0, 4), 0);
        C.due("15 into nothing", x.force(0, 3, 0), 0);
        C.due("15 into all", x.force(3, 0, 15), 1);
        C.due("15 BAD state", x.force(4, 0, 0), ForceNet.BAD);
        C.due("15 BAD state", x.force(-1, 0, 0), ForceNet.BAD);
        C.due("15 BAD group", x.force(0, 4, 0), ForceNet.BAD);
        C.due("15 BAD group", x.force(0, -1, 0), ForceNet.BAD);
        C.due("15 BAD set", x.force(0, 0, 16), ForceNet.BAD);
        C.due("15 BAD set", x.force(0, 0, -1), ForceNet.BAD);
    }
}
