import java.util.ArrayList;
import java.util.List;
import java.util.function.Supplier;

/** The edges of a number that a call takes: all about them is refused, all within is not; what is refused changes nothing. */
final class Edge {
    /** A call with one of its numbers left open. */
    interface Call {
        long on(ForceNet x, int number);
    }

    private final Check check;

    Edge(Check check) {
        this.check = check;
    }

    /** Numbers beside least .. most: next to it, far off, and such as come back into it if a high bit is lost. */
    static List<Integer> beside(int least, int most) {
        List<Integer> all = new ArrayList<>();
        long[] near = {least - 1L, least - 2L, most + 1L, most + 2L, Integer.MIN_VALUE, Integer.MIN_VALUE + 1L, Integer.MAX_VALUE, Integer.MAX_VALUE - 1L};
        for (long number : near) {
            keep(all, number, least, most);
        }
        for (int bit = 3; bit < 32; bit++) {
            keep(all, (int) (least + (1L << bit)), least, most);
            keep(all, (int) (most - (1L << bit)), least, most);
        }
        return all;
    }

    private static void keep(List<Integer> all, long number, int least, int most) {
        boolean isNumber = number >= Integer.MIN_VALUE && number <= Integer.MAX_VALUE;
        if (isNumber && (number < least || number > most) && !all.contains((int) number)) {
            all.add((int) number);
        }
    }

    /** Beside least .. most the call answers as refused, and the object stays as it was; within, it answers another thing. */
    void range(String name, Supplier<ForceNet> made, int least, int most, long refused, Call call) {
        String was = Look.at(made.get());
        ForceNet x = made.get();
        for (int number : beside(least, most)) {
            check.due(name + ": " + number + " is refused", call.on(x, number), refused);
        }
        check.due(name + ": the refused change nothing", Look.at(x).equals(was) ? 1 : 0, 1);
        for (int number = least; number <= most; number++) {
            check.due(name + ": " + number + " is not refused", call.on(made.get(), number) == refused ? 0 : 1, 1);
        }
    }

    /** The call answers so, and the object stays as it was. */
    void refused(String name, Supplier<ForceNet> made, long due, Call call) {
        String was = Look.at(made.get());
        ForceNet x = made.get();
        check.due(name, call.on(x, 0), due);
        check.due(name + " changes nothing", Look.at(x).equals(was) ? 1 : 0, 1);
    }
}
