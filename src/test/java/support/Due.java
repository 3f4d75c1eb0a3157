/** Counts and prints the answers that are not due. */
final class Due {
    static final long BAD = -9000000000000000001L;
    static final long NO = -9000000000000000002L;
    static final long FULL = -9000000000000000003L;
    static final long OFF = -9000000000000000004L;
    static final long NONE = -9000000000000000005L;

    private static int checked = 0;
    private static int wrong = 0;

    private Due() {
    }

    static void due(String call, long got, long want) {
        checked++;
        if (got != want) {
            wrong++;
            System.out.println(call + " answered " + told(got) + ", due is " + told(want));
        }
    }

    static String told(long answer) {
        if (answer == BAD) {
            return "BAD";
        }
        if (answer == NO) {
            return "NO";
        }
        if (answer == FULL) {
            return "FULL";
        }
        if (answer == OFF) {
            return "OFF";
        }
        return answer == NONE ? "NONE" : Long.toString(answer);
    }

    static void end() {
        System.out.println(checked + " answers looked at, " + wrong + " not as due");
        if (wrong != 0) {
            System.exit(1);
        }
    }
}
