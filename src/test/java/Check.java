/** Counts the answers that are not due, and ends a test by them. */
final class Check {
    private final String name;
    private int wrong;
    private int done;

    Check(String name) {
        this.name = name;
    }

    void due(String call, long got, long want) {
        done++;
        if (got != want) {
            wrong++;
            if (wrong <= 40) {
                System.out.println(name + ": " + call + " answered " + got + ", due is " + want);
            }
        }
    }

    void end() {
        System.out.println(name + ": " + done + " answers, " + wrong + " wrong");
        if (wrong != 0 || done == 0) {
            System.exit(1);
        }
    }

    /** Types a text and reads it. */
    static int read(ForceNet x, String text) {
        type(x, text);
        return x.form();
    }

    /** Types a text, as many bytes at once as go. */
    static int type(ForceNet x, String text) {
        int last = 0;
        for (int from = 0; from < text.length(); from += 8) {
            String piece = text.substring(from, Math.min(from + 8, text.length()));
            long w = 0;
            for (int i = 0; i < piece.length(); i++) {
                w = w << 8 | piece.charAt(i);
            }
            last = x.type(w, piece.length());
        }
        return last;
    }
}
