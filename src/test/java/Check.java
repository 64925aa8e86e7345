/** What the tests share: answers compared and counted. */
final class Check {
    private static int passed = 0;
    private static int failed = 0;

    private Check() {
    }

    static void due(String what, long got, long want) {
        if (got == want) {
            passed++;
        } else {
            failed++;
            System.out.println(what + " answered " + got + ", due is " + want);
        }
    }

    static void holds(String what, boolean so) {
        due(what, so ? 1 : 0, 1);
    }

    /** Several answers told in a row, parted by blanks. */
    static void row(String what, String got, String want) {
        if (!got.equals(want)) {
            System.out.println(what + " answered " + got + ", due is " + want);
        }
        holds(what, got.equals(want));
    }

    /** Types a whole text on the tape. */
    static void type(TokenRounds x, String text) {
        for (int i = 0; i < text.length(); i++) {
            x.type(text.charAt(i));
        }
    }

    static int read(TokenRounds x, String text) {
        type(x, text);
        return x.read();
    }

    static void end(String name) {
        System.out.println(name + ": " + passed + " answers as due, " + failed + " not");
        if (failed != 0) {
            System.exit(1);
        }
    }
}
