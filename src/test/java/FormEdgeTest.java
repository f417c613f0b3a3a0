/** Each sentence of the part ==== 2 and of the promises 11 to 15 that names an edge: a test of its own. */
final class FormEdgeTest {
    private static final Check C = new Check("form edges");
    private static final Edge E = new Edge(C);
    private static final int BAD = ForceNet.BAD;

    public static void main(String[] args) {
        typeRange();
        typeBytes();
        typeHigherBytes();
        typeHighestFirst();
        typeHowManyItHas();
        typeFull();
        typeFullByEachN();
        formEmptiesTheTape();
        formFault();
        theFirstForm();
        faultAtTheEnd();
        faultBehindBlanks();
        faultAtEachPlace();
        blanksCountForNothing();
        bytesOfEachSlot();
        digits();
        theGroupOfNone();
        twentyFourParts();
        aGroupWithItsLawIsOnePart();
        the25thPart();
        longestTexts();
        holdsT();
        holdsLetters();
        holdsAsOneKnows();
        forceRange();
        forceOfNoneAndOfAll();
        forceNothingAndAll();
        forceByOneJointMove();
        nextEdges();
        alwaysEdges();
        atLastEdges();
        untilEdges();
        againEdges();
        longWays();
        partRange();
        partOrder();
        C.end();
    }

    // ---- THE TAPE

    /** "The n lowest bytes (1 .. 8)"; all eight bytes of w could stand on THE TAPE, so n alone is BAD. */
    private static void typeRange() {
        E.range("11 n", Made::rich, 1, 8, BAD, (x, n) -> x.type(0x6161616161616161L, n));
    }

    /** "BAD: .. a byte not 32 .. 126": whichever of the bytes it is; none of the others come then. */
    private static void typeBytes() {
        for (int place = 0; place < 8; place++) {
            for (int sign = 0; sign < 256; sign++) {
                long w = 0x6161616161616161L & ~(255L << 8 * place) | (long) sign << 8 * place;
                boolean good = sign >= 32 && sign <= 126;
                ForceNet x = new ForceNet();
                C.due("11 byte " + sign + " at " + place, x.type(w, 8), good ? 8 : BAD);
                C.due("11 so many behind byte " + sign + " at " + place, x.type('a', 1), good ? 9 : 1);
            }
        }
        E.refused("11 a byte of 31", Made::rich, BAD, (x, n) -> x.type(0x611F, 2));
        E.refused("11 a byte of 127", Made::rich, BAD, (x, n) -> x.type(0x617F, 2));
    }

    /** "The n lowest bytes": what is above them counts for nothing. */
    private static void typeHigherBytes() {
        for (int n = 1; n < 8; n++) {
            long w = -1L << 8 * n | 0x6161616161616161L >>> 8 * (8 - n);
            ForceNet x = new ForceNet();
            C.due("11 n " + n + " of -1 above", x.type(w, n), n);
            C.due("11 n " + (n + 1) + " of -1 above", x.type(w, n + 1), BAD);
        }
        ForceNet x = new ForceNet();
        C.due("11 the lowest alone", x.type(0x2161, 1), 1);
        C.due("11 it is a", x.form(), 1);
    }

    /** "of these the highest first" */
    private static void typeHighestFirst() {
        ForceNet x = new ForceNet();
        x.type(0x2161, 2);
        C.due("11 !a", x.form(), 2);
        x.type(0x6121, 2);
        C.due("11 a!", x.form(), -21);
        x.type(0x2121212121212161L, 8);
        C.due("11 !!!!!!!a", x.form(), 8);
        x.type(0x3C303E4661202020L, 8);
        C.due("11 <0>Fa", x.form(), 2);
        x.type(0x3C303E, 3);
        x.type(0x4661, 2);
        C.due("11 come behind THE TAPE", x.form(), 2);
    }

    /** "how many it has" */
    private static void typeHowManyItHas() {
        ForceNet x = new ForceNet();
        int all = 0;
        for (int n = 1; n <= 8; n++) {
            all += n;
            C.due("11 how many it has", x.type(0x2020202020202020L, n), all);
        }
    }

    /** "FULL: 100": a hundred go, one more doesn't; what is FULL changes nothing; BAD is named ahead of it. */
    private static void typeFull() {
        ForceNet x = withBytes(99);
        C.due("11 the hundredth", x.type('a', 1), 100);
        C.due("11 the hundred and first", x.type('a', 1), ForceNet.FULL);
        C.due("11 BAD ahead of FULL", x.type(31, 1), BAD);
        C.due("11 BAD n ahead of FULL", x.type('a', 0), BAD);
        C.due("11 a hundred of them, x at 98", x.form(), -118);
        C.due("11 empty then", x.type('a', 1), 1);
        ForceNet y = withBytes(98);
        C.due("11 three beyond 98", y.type(0x616161, 3), ForceNet.FULL);
        C.due("11 nothing of them came", y.type('a', 1), 99);
        C.due("11 two beyond 99", y.type(0x6161, 2), ForceNet.FULL);
        C.due("11 nothing of them came", y.type('a', 1), 100);
    }

    /** Blanks, but for an x at place 98. */
    private static ForceNet withBytes(int all) {
        ForceNet x = new ForceNet();
        for (int k = 0; k < all; k++) {
            x.type(k == 98 ? 'x' : ' ', 1);
        }
        return x;
    }

    private static void typeFullByEachN() {
        for (int n = 1; n <= 8; n++) {
            ForceNet x = withBytes(100 - n);
            C.due("11 just full by " + n, x.type(0x6161616161616161L, n), 100);
            ForceNet y = withBytes(101 - n);
            C.due("11 one too many by " + n, y.type(0x6161616161616161L, n), ForceNet.FULL);
            C.due("11 none of them came", y.form(), n <= 2 ? -118 : -121 + n);
        }
    }

    // ---- FAULTS

    /** "THE TAPE, which is empty then (by a FAULT, too)" */
    private static void formEmptiesTheTape() {
        ForceNet x = new ForceNet();
        Check.type(x, "!!!!!!!!a");
        C.due("12 nine parts", x.form(), 9);
        C.due("12 empty then", x.type('a', 1), 1);
        Check.type(x, "&b");
        C.due("12 a FAULT", x.form(), -21);
        C.due("12 empty by a FAULT", x.type('a', 1), 1);
        C.due("12 and read again", x.form(), 1);
        C.due("12 nothing stands on it", x.form(), -20);
    }

    /** "a FAULT (THE FORM stays)": wherever it is. */
    private static void formFault() {
        String[] wrong = {"", "!", "(b", "(b&", "(b&c", "(b&c)d", "<", "<0", "<0>", "<0>X", "<0>(b", "<0>(bU", "<0>(bUc", "!".repeat(24) + "b", "<1>(bUc))"};
        for (String text : wrong) {
            ForceNet x = Made.untyped();
            int rounds = x.round(0) * 100 + x.round(1) * 10 + x.round(2);
            int fault = Check.read(x, text);
            C.due("12 a FAULT: " + text, fault <= -20 ? 1 : 0, 1);
            C.due("12 parts stay: " + text, x.count(2), 3);
            C.due("12 rounds stay: " + text, x.round(0) * 100 + x.round(1) * 10 + x.round(2), rounds);
            C.due("12 part 1 stays: " + text, x.part(1), 7);
            C.due("12 part 2 stays: " + text, x.part(2), 2);
            C.due("12 no part 3: " + text, x.part(3), BAD);
            C.due("12 all else stays: " + text, Look.at(x).equals(Look.at(Made.untyped())) ? 1 : 0, 1);
        }
    }

    /** "(T at first)" */
    private static void theFirstForm() {
        ForceNet x = new ForceNet();
        C.due("12 T has one part", x.count(2), 1);
        C.due("12 T holds in all", x.part(0), 15);
        C.due("12 a FAULT at first", Check.read(x, "!"), -21);
        C.due("12 T stays", x.holds(), 15);
    }

    /** "(the end: how many bytes there are)": blanks count, to a hundred. */
    private static void faultAtTheEnd() {
        for (int blanks = 0; blanks <= 100; blanks++) {
            C.due("12 " + blanks + " blanks alone", Check.read(new ForceNet(), " ".repeat(blanks)), -20 - blanks);
        }
        String[] open = {"!", "(", "(a", "(a&", "(a|b", "<", "<0", "<01", "<>", "<0>X", "<1>G", "<>F", "<0>I", "<0>(", "<0>(a", "<0>(aU", "<0>(aUb"};
        for (String text : open) {
            for (int blanks = 0; blanks + text.length() <= 100; blanks += 11) {
                C.due("12 the end behind " + text, Check.read(new ForceNet(), text + " ".repeat(blanks)), -20 - text.length() - blanks);
            }
        }
    }

    /** "the place of the first byte (behind blanks)": it is the byte that is told, not the blanks ahead of it. */
    private static void faultBehindBlanks() {
        for (int blanks = 0; blanks < 100; blanks++) {
            C.due("12 ) behind " + blanks + " blanks", Check.read(new ForceNet(), " ".repeat(blanks) + ")"), -20 - blanks);
        }
        C.due("12 (a &  )", Check.read(new ForceNet(), "(a &  )"), -26);
        C.due("12 < 0   0", Check.read(new ForceNet(), "< 0   0"), -26);
        C.due("12 a    a", Check.read(new ForceNet(), "a    a"), -25);
    }

    /** "the first byte .. that can't stand there": of two the first; the greatest place is 99. */
    private static void faultAtEachPlace() {
        String text = " ( a & < 0 1 > ( b U ! c ) ) ";
        for (int place = 0; place < text.length(); place++) {
            String hurt = text.substring(0, place) + "?" + text.substring(place) + "??";
            C.due("12 ? at " + place, Check.read(new ForceNet(), hurt), -20 - place);
        }
        C.due("12 the hundredth byte", Check.read(new ForceNet(), "a" + " ".repeat(98) + "a"), -119);
    }

    /** "bytes 32 count for nothing": between any two others. */
    private static void blanksCountForNothing() {
        String text = "(<01>(aUT)|!<>Gb)";
        ForceNet x = new ForceNet();
        C.due("12 " + text, Check.read(x, text), 7);
        C.due("12 with blanks", Check.read(x, "  " + text.replaceAll("", "  ") + "  "), 7);
        C.due("12 blanks at both ends", Check.read(x, " ".repeat(50) + "a" + " ".repeat(49)), 1);
    }

    /** Every byte in every slot of a FORM: either it can stand there, and the FAULT comes later, or the FAULT is there. */
    private static void bytesOfEachSlot() {
        slot("", "Tabcdefgh!(<");
        slot("!", "Tabcdefgh!(<");
        slot("(", "Tabcdefgh!(<");
        slot("(a&", "Tabcdefgh!(<");
        slot("(a|", "Tabcdefgh!(<");
        slot("<0>X", "Tabcdefgh!(<");
        slot("<0>(", "Tabcdefgh!(<");
        slot("<0>(aU", "Tabcdefgh!(<");
        slot("(a", "&|");
        slot("<0>(a", "U");
        slot("(a&b", ")");
        slot("(a|b", ")");
        slot("<0>(aUb", ")");
        slot("<", "01>");
        slot("<0", "1>");
        slot("<1", ">");
        slot("<01", ">");
        slot("<>", "XGFI(");
        slot("<01>", "XGFI(");
        slot("T", "");
        slot("a", "");
        slot("!a", "");
        slot("(a&b)", "");
        slot("<0>Xa", "");
        slot("<0>(aUb)", "");
    }

    private static void slot(String ahead, String can) {
        for (char sign = 33; sign <= 126; sign++) {
            int answer = Check.read(new ForceNet(), ahead + sign);
            boolean here = answer == -20 - ahead.length();
            C.due("12 " + sign + " behind " + ahead, here ? 0 : 1, can.indexOf(sign) >= 0 ? 1 : 0);
        }
    }

    /** "a digit that is no PLAYER, or does not rise, can't": by every number of PLAYERS. */
    private static void digits() {
        for (int players = 1; players <= 4; players++) {
            for (int first = 0; first < 10; first++) {
                ForceNet x = Made.plain(2, players);
                C.due("12 <" + first + "> of " + players, Check.read(x, "<" + first + ">Xa"), first < players ? 2 : -21);
                for (int second = 0; second < 10 && first < players; second++) {
                    boolean can = second > first && second < players;
                    C.due("12 <" + first + second + "> of " + players, Check.read(Made.plain(2, players), "<" + first + second + ">Xa"), can ? 2 : -22);
                }
            }
        }
        C.due("12 all four", Check.read(Made.plain(2, 4), "<0123>Xa"), 2);
        C.due("12 <0132>", Check.read(Made.plain(2, 4), "<0132>Xa"), -24);
        C.due("12 <013 3>", Check.read(Made.plain(2, 4), "<013 3>Xa"), -25);
        C.due("12 a fifth digit", Check.read(Made.plain(2, 4), "<01234>Xa"), -25);
    }

    /** "some PLAYERS (digits, rising, or none)" */
    private static void theGroupOfNone() {
        String[] laws = {"<>Xa", "<>Ga", "<>Fa", "<>Ia", "<>(aUb)", "< >Xa"};
        int[] parts = {2, 2, 2, 2, 3, 2};
        for (int i = 0; i < laws.length; i++) {
            C.due("12 " + laws[i], Check.read(new ForceNet(), laws[i]), parts[i]);
        }
    }

    /** "It has 24 such parts at most" */
    private static void twentyFourParts() {
        String[] by = {"!".repeat(23) + "a", "!".repeat(23) + "T", "(".repeat(11) + "a" + "&b)".repeat(11), "(a|".repeat(11) + "b" + ")".repeat(11)};
        int[] parts = {24, 24, 23, 23};
        for (int i = 0; i < by.length; i++) {
            C.due("12 " + by[i], Check.read(new ForceNet(), by[i]), parts[i]);
            C.due("12 one more: !" + by[i], Check.read(new ForceNet(), "!" + by[i]), parts[i] == 24 ? -44 : 24);
        }
        C.due("12 24 of &, the last of 25", Check.read(new ForceNet(), "!!" + by[2]), -20 - (2 + by[2].length() - 2));
        C.due("12 24 of |, the last of 25", Check.read(new ForceNet(), "!!" + by[3]), -20 - (2 + 33));
    }

    /** "a GROUP with its X, G, F, I, U is one" */
    private static void aGroupWithItsLawIsOnePart() {
        for (String law : new String[] {"<0>X", "<>G", "<01>F", "<1>I"}) {
            ForceNet x = new ForceNet();
            int fit = Math.min(23, 99 / law.length());
            C.due("12 " + fit + " times " + law, Check.read(x, law.repeat(fit) + "a"), fit + 1);
        }
        String mixed = "<>X<>G".repeat(11) + "!a";
        C.due("12 22 laws, ! and a", Check.read(new ForceNet(), mixed), 24);
        C.due("12 22 laws, ! and a, one more", Check.read(new ForceNet(), "!" + mixed), -20 - mixed.length());
        String until = "<>(aU".repeat(11) + "!a" + ")".repeat(11);
        C.due("12 11 of U, ! and a", Check.read(new ForceNet(), until), 24);
        C.due("12 11 of U, !! and a", Check.read(new ForceNet(), until.replace("!a", "!!a")), -20 - 57);
    }

    /** "the first byte of a 25th part can't": whichever part it is, where it begins, behind blanks; the end is the end. */
    private static void the25thPart() {
        String deep = "!".repeat(24);
        for (String last : new String[] {"T", "a", "!a", "(a&b)", "<0>Xa", "<0>(aUb)", "?"}) {
            C.due("12 a 25th: " + last, Check.read(new ForceNet(), deep + last), -44);
            C.due("12 a 25th behind blanks: " + last, Check.read(new ForceNet(), deep + "  " + last), -46);
        }
        C.due("12 no 25th", Check.read(new ForceNet(), deep), -44);
        C.due("12 no 25th behind blanks", Check.read(new ForceNet(), deep + "  "), -46);
        String pairs = "(" + "!".repeat(21) + "a&";
        C.due("12 a 24th to the right", Check.read(new ForceNet(), pairs + "b)"), 24);
        C.due("12 a 25th to the right", Check.read(new ForceNet(), pairs + "!b)"), -20 - pairs.length() - 1);
        C.due("12 behind 24 parts the end can't be missing", Check.read(new ForceNet(), pairs + "b"), -20 - pairs.length() - 1);
        C.due("12 behind 24 parts nothing else can stand", Check.read(new ForceNet(), pairs + "b!)"), -20 - pairs.length() - 1);
    }

    /** A text of a hundred bytes is read whole. */
    private static void longestTexts() {
        String text = "(" + " ".repeat(95) + "a&b)";
        ForceNet x = new ForceNet();
        C.due("11 a hundred", Check.type(x, text), 100);
        C.due("12 of a hundred", x.form(), 3);
        C.due("12 without its last", Check.read(x, text.substring(0, 99)), -119);
    }

    // ---- where a FORM HOLDS

    /** "T in all": in all STATES of each net, in no others. */
    private static void holdsT() {
        for (int states = 2; states <= 12; states++) {
            C.due("13 T of " + states, Made.plain(states, 1, "T").holds(), (1 << states) - 1);
            C.due("13 !T of " + states, Made.plain(states, 1, "!T").holds(), 0);
            C.due("13 !!T of " + states, Made.plain(states, 1, "!!T").holds(), (1 << states) - 1);
            C.due("13 no a of " + states, Made.plain(states, 1, "a").holds(), 0);
            C.due("13 !a of " + states, Made.plain(states, 1, "!a").holds(), (1 << states) - 1);
        }
    }

    /** "a letter in those that have it": a .. h, the least bit is a's; in the first and in the last STATE. */
    private static void holdsLetters() {
        for (int letter = 0; letter < 8; letter++) {
            for (int state : new int[] {0, 11}) {
                ForceNet x = Made.plain(12, 1);
                x.letters(state, 1 << letter);
                for (int other = 0; other < 8; other++) {
                    Check.read(x, String.valueOf((char) ('a' + other)));
                    C.due("13 letter " + other + " by bit " + letter, x.holds(), other == letter ? 1 << state : 0);
                }
            }
        }
    }

    /** "!, &, | as one knows": by all four ways to hold. */
    private static void holdsAsOneKnows() {
        ForceNet x = new ForceNet();
        for (int s = 0; s < 4; s++) {
            x.letters(s, s);
        }
        String[] text = {"a", "b", "(a&b)", "(a|b)", "!(a&b)", "!(a|b)", "(!a&b)", "(a|!b)", "!!a"};
        int[] due = {10, 12, 8, 14, 7, 1, 4, 11, 10};
        for (int i = 0; i < text.length; i++) {
            Check.read(x, text[i]);
            C.due("13 " + text[i], x.holds(), due[i]);
        }
    }

    /** A STATE, a GROUP as bits, a set as bits; all else is BAD. */
    private static void forceRange() {
        E.range("15 STATE", Made::rich, 0, 2, BAD, (x, s) -> x.force(s, 1, 1));
        E.range("15 GROUP", Made::rich, 0, 3, BAD, (x, g) -> x.force(0, g, 1));
        E.range("15 set", Made::rich, 0, 7, BAD, (x, set) -> x.force(0, 1, set));
        E.range("15 set of two", () -> Made.plain(2, 4), 0, 3, BAD, (x, set) -> x.force(0, 1, set));
        E.range("15 set of twelve", () -> Made.plain(12, 1), 0, 4095, BAD, (x, set) -> x.force(0, 1, set));
        E.range("15 GROUP of four", () -> Made.plain(2, 4), 0, 15, BAD, (x, g) -> x.force(0, g, 1));
    }

    /** A GROUP of none has one JOINT MOVE, all of all must lead into the set; one of all needs but one of them. */
    private static void forceOfNoneAndOfAll() {
        for (int j = 0; j < 81; j++) {
            ForceNet x = small81();
            for (int k = 0; k < 81; k++) {
                x.step(1, k, k == j ? 0 : 1);
            }
            C.due("15 all can force the one of " + j, x.force(1, 15, 1), 1);
            C.due("15 nobody can hold out against the one of " + j, x.force(1, 0, 2), 0);
            C.due("15 all can force the others than " + j, x.force(1, 15, 2), 1);
            x.step(1, j, 1);
            C.due("15 nobody, when all lead there", x.force(1, 0, 2), 1);
            C.due("15 not even all, when none leads there", x.force(1, 15, 1), 0);
        }
    }

    private static ForceNet small81() {
        ForceNet x = Made.plain(2, 4);
        for (int p = 0; p < 4; p++) {
            x.moves(1, p, 3);
        }
        return x;
    }

    /** The set of no STATES can't be forced, that of all is always. */
    private static void forceNothingAndAll() {
        ForceNet x = Made.rich();
        for (int s = 0; s < 3; s++) {
            for (int group = 0; group < 4; group++) {
                C.due("15 nothing in " + s, x.force(s, group, 0), 0);
                C.due("15 all in " + s, x.force(s, group, 7), 1);
            }
        }
    }

    /** "if it has a JOINT MOVE with which all JOINT MOVES of the others lead into the set": the last of its own; not one of the others' missing. */
    private static void forceByOneJointMove() {
        int[] weights = {27, 9, 3, 1};
        for (int group = 0; group < 16; group++) {
            ForceNet x = small81();
            for (int j = 0; j < 81; j++) {
                boolean last = true;
                for (int p = 0; p < 4; p++) {
                    last &= (group >> p & 1) == 0 || j / weights[p] % 3 == 2;
                }
                x.step(1, j, last ? 0 : 1);
            }
            C.due("15 by the last of GROUP " + group, x.force(1, group, 1), 1);
            x.step(1, 80, 1);
            C.due("15 but for one of the others' to GROUP " + group, x.force(1, group, 1), 0);
        }
    }

    private static void each(String[] text, int... due) {
        for (int i = 0; i < text.length; i++) {
            ForceNet x = ring();
            Check.read(x, text[i]);
            C.due("13 " + text[i], x.holds(), due[i]);
        }
    }

    /** 0 goes to 1 or stays, as PLAYER 0 likes; 1 to 2 or back to 0, as PLAYER 1 likes; 2 and 3 stay. a: 2, b: 0 and 1, c: 3, d: 0. */
    private static ForceNet ring() {
        ForceNet x = new ForceNet();
        x.moves(0, 0, 2);
        x.moves(1, 1, 2);
        x.step(0, 1, 1);
        x.step(1, 0, 2);
        x.step(1, 1, 0);
        x.letters(2, 1);
        x.letters(0, 2 + 8);
        x.letters(1, 2);
        x.letters(3, 4);
        return x;
    }

    /** X: of nothing, of all; a STATE that has f need not be forced into it. */
    private static void nextEdges() {
        each(new String[] {"<01>X!T", "<>XT", "<>Xa", "<1>Xa", "<0>Xd", "<>Xd"}, 0, 15, 4, 6, 1, 0);
    }

    /** G: of nothing, of all; "the greatest set within f": a STATE of f that must leave it is not in it, two that hold one another are. */
    private static void alwaysEdges() {
        each(new String[] {"<01>G!T", "<>GT", "<>Gb", "<0>Gb", "<1>Gb", "<01>Gb", "<0>Gd", "<1>Gd", "<>G(a|c)"}, 0, 15, 0, 1, 3, 3, 1, 0, 12);
    }

    /** F: of nothing, of all; f itself counts, even where it must be left. */
    private static void atLastEdges() {
        each(new String[] {"<01>F!T", "<>FT", "<>Fa", "<0>Fa", "<1>Fa", "<01>Fa", "<>Fc", "<>Fd"}, 0, 15, 4, 4, 6, 7, 8, 1);
    }

    /** U: "ROUND 0 is g", also beside f; f empty: g alone; g empty: nothing; "of f those in which it can FORCE": not of others. */
    private static void untilEdges() {
        each(new String[] {"<01>(!TUa)", "<01>(TU!T)", "<01>(bUa)", "<01>(dUa)", "<1>(bUa)", "<0>(cUb)", "<>(aUc)", "<>(aUT)"}, 4, 0, 7, 4, 6, 3, 8, 15);
    }

    /** I: of nothing, of all; f once is not enough; others must come to it, too. */
    private static void againEdges() {
        each(new String[] {"<01>I!T", "<>IT", "<>Ia", "<0>Ia", "<01>Ia", "<>Ib", "<0>Id", "<1>Ib", "<01>I(b&!d)", "<0>I(b&!d)", "<1>I!b"},
            0, 15, 4, 4, 7, 0, 1, 3, 3, 0, 14);
    }

    /** The longest ways: twelve STATES in a row, each told by the next one; eleven ROUNDS. */
    private static void longWays() {
        ForceNet x = row();
        String[] text = {"<>Fa", "<>(!aUa)", "<>Ia", "<>G!b", "<>Gc", "<>Ic", "<>I!b"};
        int[] due = {4095, 4095, 4095, 0, 0, 0, 0};
        for (int i = 0; i < text.length; i++) {
            Check.read(x, text[i]);
            C.due("13 in a row " + text[i], x.holds(), due[i]);
        }
        Check.read(x, "<>Fa");
        for (int s = 0; s < 12; s++) {
            C.due("16 in a row, in " + s, x.round(s), 11 - s);
        }
        Check.read(x, "<>Ia");
        C.due("16 the longest of I", x.round(0), 11);
        C.due("16 the shortest of I", x.round(11), 0);
        // The last can't stay: one by one all before it fall out of what is told always, or again and again.
        x.letters(11, 1 + 2);
        x.step(11, 0, 11);
        Check.read(x, "<>Ic");
        C.due("13 each came but once", x.holds(), 0);
        x.moves(11, 0, 2);
        x.step(11, 1, 0);
        Check.read(x, "<0>Ic");
        C.due("13 round and round", x.holds(), 4095);
        Check.read(x, "<>Ic");
        C.due("13 nobody goes round", x.holds(), 0);
    }

    /** 0 leads to 1, and so on; 11 stays. a: 11, b: 11, c: all others. */
    private static ForceNet row() {
        ForceNet x = Made.plain(12, 2);
        for (int s = 0; s < 11; s++) {
            x.step(s, 0, s + 1);
            x.letters(s, 4);
        }
        x.letters(11, 3);
        return x;
    }

    // ---- parts

    /** "BAD": no such part. */
    private static void partRange() {
        E.range("14 k of three", Made::rich, 0, 2, BAD, (x, k) -> x.part(k));
        E.range("14 k of one", () -> Made.plain(2, 1), 0, 0, BAD, (x, k) -> x.part(k));
        E.range("14 k of 24", () -> Made.plain(2, 1, "!".repeat(23) + "T"), 0, 23, BAD, (x, k) -> x.part(k));
        ForceNet x = Made.plain(2, 1, "!".repeat(23) + "T");
        for (int k = 0; k < 24; k++) {
            C.due("14 part " + k, x.part(k), k % 2 == 1 ? 3 : 0);
        }
    }

    /** "parts by where they begin in the TEXT: an &, |, U with its ( or GROUP, whichever is first" */
    private static void partOrder() {
        ForceNet x = ring();
        Check.read(x, "((a|!b)&<01>(d U c))");
        int[] due = {8, 12, 4, 12, 3, 8, 1, 8};
        for (int k = 0; k < due.length; k++) {
            C.due("14 part " + k, x.part(k), due[k]);
        }
        C.due("14 the first is THE FORM", x.part(0), x.holds());
        C.due("14 no ninth", x.part(8), BAD);
    }
}
