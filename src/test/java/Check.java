/** Counts the answers that are not the ones that are due. */
final class Check {
    interface Call {
        void run();
    }

    private int wrong = 0;
    private int compared = 0;

    void same(String what, Object got, Object due) {
        compared++;
        if (!got.equals(due)) {
            tell(what + " answered " + got + ", due is " + due);
        }
    }

    /** The very class counts: a machine's ArrayIndexOutOfBoundsException is not what the document names. */
    void refuses(String what, Class<? extends RuntimeException> due, Call call) {
        compared++;
        try {
            call.run();
            tell(what + " threw nothing, due is " + due.getSimpleName());
        } catch (RuntimeException e) {
            if (e.getClass() != due) {
                tell(what + " threw " + e + ", due is " + due.getSimpleName());
            }
        }
    }

    private void tell(String text) {
        wrong++;
        if (wrong <= 40) {
            System.out.println(text);
        }
    }

    void end() {
        System.out.println(compared + " answers compared, " + wrong + " not as due");
        if (wrong > 0) {
            System.exit(1);
        }
    }
}
