/** Compares answers with those that are due, and ends a test with exit code 1 if one was not. */
final class Due {
    private static int wrong = 0;
    private static int looked = 0;

    private Due() {
    }

    static void is(String call, long got, long want) {
        looked++;
        if (got != want) {
            wrong++;
            if (wrong <= 40) {
                System.out.println(call + " answered " + got + ", due is " + want);
            }
        }
    }

    static void holds(String what, boolean does) {
        looked++;
        if (!does) {
            wrong++;
            if (wrong <= 40) {
                System.out.println("does not hold: " + what);
            }
        }
    }

    static void refused(String call, WorkOrders x, long before, long got, long want) {
        is(call, got, want);
        is(call + ", then digest()", x.digest(), before);
    }

    static boolean isWrong() {
        return wrong != 0;
    }

    static void end() {
        System.out.println(wrong == 0 ? looked + " answers are as due" : wrong + " of " + looked + " are not as due");
        if (wrong != 0) {
            System.exit(1);
        }
    }
}
