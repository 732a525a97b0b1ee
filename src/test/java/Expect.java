/** Counts the answers that are not due; a test ends with exit code 1 if there was one. */
final class Expect {
    interface Call {
        void run();
    }

    private static int wrong = 0;
    private static int looked = 0;

    private Expect() {
    }

    static void due(String call, double got, double want) {
        looked++;
        if (got != want) {
            fault(call + " answered " + got + ", due is " + want);
        }
    }

    static void fails(String call, Class<? extends RuntimeException> want, Call run) {
        looked++;
        Class<?> got = null;
        try {
            run.run();
        } catch (RuntimeException e) {
            got = e.getClass();
        }
        if (got != want) {
            fault(call + " threw " + got + ", due is " + want);
        }
    }

    static void fault(String told) {
        wrong++;
        // A broken class can give thousands of wrong answers; the first ones tell enough.
        if (wrong <= 40) {
            System.out.println(told);
        }
    }

    static void end() {
        System.out.println(looked + " answers looked at, " + wrong + " of them wrong");
        if (wrong != 0) {
            System.exit(1);
        }
    }
}
