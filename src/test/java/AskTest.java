/** Calls that only ask change nothing, whatever they answer; by FORMS of every OUTERMOST. */
final class AskTest {
    private static final Check C = new Check("asking");
    private static final String[] TEXTS = {"T", "a", "!a", "(a&b)", "(a|b)", "<0>Xa", "<01>Gb", "<1>Fb", "<0>(aUb)", "<0>Ib", "<>X<1>Fa", "<0>F!T"};

    public static void main(String[] args) {
        for (String text : TEXTS) {
            String was = Look.at(Made.rich(text));
            for (int ask = 0; ask < 17; ask++) {
                ForceNet x = Made.rich(text);
                for (int state = 0; state < 3; state++) {
                    ask(x, ask, state);
                }
                C.due("call " + ask + " by " + text + " changes nothing", Look.at(x).equals(was) ? 1 : 0, 1);
            }
        }
        C.end();
    }

    private static void ask(ForceNet x, int ask, int state) {
        switch (ask) {
            case 0 -> x.joint(state, 3);
            case 1 -> x.leads(state, 0);
            case 2 -> x.holds();
            case 3 -> x.part(0);
            case 4 -> x.force(state, 1, 3);
            case 5 -> x.round(state);
            case 6 -> x.plan(state);
            case 7 -> x.answer(state, 0);
            case 8 -> x.toll(state);
            case 9 -> x.walked(state);
            case 10 -> x.blind(state);
            case 11 -> x.blindMove(state, 0, 0);
            case 12 -> x.chance(state, 0);
            case 13 -> x.content(state);
            case 14 -> x.stable(state);
            case 15 -> x.helpers(state);
            default -> x.count(state);
        }
    }
}
