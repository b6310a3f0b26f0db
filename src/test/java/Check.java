// Counts the answers that are not as due, and ends a test with exit code 1 if there was one.
final class Check {
    private static int wrong = 0;
    private static int looked = 0;

    private Check() {
    }

    // The words stand in the document as they stand here; the test is theirs alone.
    static void sentence(String words, Runnable test) {
        int lookedBefore = looked;
        int wrongBefore = wrong;
        try {
            test.run();
        } catch (RuntimeException thrown) {
            wrong++;
            System.out.println("no call may throw, but there was " + thrown);
        }
        if (looked == lookedBefore) {
            wrong++;
            System.out.println("no answer was looked at");
        }
        if (wrong != wrongBefore) {
            System.out.println("BROKEN: " + words);
        }
    }

    static void due(String what, long got, long want) {
        looked++;
        if (got != want) {
            wrong++;
            System.out.println(what + " answered " + got + ", due is " + want);
        }
    }

    static void due(String what, boolean got, boolean want) {
        due(what, got ? 1 : 0, want ? 1 : 0);
    }

    static void due(String what, String got, String want) {
        looked++;
        if (!got.equals(want)) {
            wrong++;
            System.out.println(what + " is\n  " + got + "\ndue is\n  " + want);
        }
    }

    static int wrong() {
        return wrong;
    }

    static void end() {
        System.out.println(wrong == 0 ? looked + " answers are as due" : wrong + " of " + looked + " answers are not as due");
        if (wrong != 0) {
            System.exit(1);
        }
    }
}
