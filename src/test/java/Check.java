/** Counts the answers that are not the ones that are due. */
final class Check {
    interface Call {
        void run();
    }

    private static final int TOLD_MOST = 10;

    private int wrong = 0;
    private int told = 0;
    private int compared = 0;
    private String sentence = "";

    /** What is compared from here on is told with this sentence. */
    void under(String text) {
        sentence = "[" + text + "] ";
        told = 0;
    }

    int compared() {
        return compared;
    }

    void same(String what, Object got, Object due) {
        compared++;
        if (!got.equals(due)) {
            tell(what + " answered " + got + ", due is " + due);
        }
    }

    /** The very class counts: a machine's ArrayIndexOutOfBoundsException is not what the document names. */
    void refuses(String what, Class<? extends RuntimeException> due, Call call) {
        compared++;
        try {
            call.run();
            tell(what + " threw nothing, due is " + due.getSimpleName());
        } catch (RuntimeException e) {
            if (e.getClass() != due) {
                tell(what + " threw " + e + ", due is " + due.getSimpleName());
            }
        }
    }

    private void tell(String text) {
        wrong++;
        told++;
        if (told <= TOLD_MOST) {
            System.out.println(sentence + text);
        }
    }

    void end() {
        System.out.println(compared + " answers compared, " + wrong + " not as due");
        if (wrong > 0) {
            System.exit(1);
        }
    }
}
