/** What the tests share: rows of what is due, and wires and things made from short words. */
final class Check {
    private int passed = 0;
    private int wrong = 0;
    private String words = "";

    /** The words of the document that the checks behind it are of: a wrong answer is told with them. */
    void of(String someWords) {
        words = someWords;
    }

    void due(String what, long got, long want) {
        if (got == want) {
            passed++;
        } else {
            wrong++;
            System.out.println("wrong: " + what + " answered " + got + ", due is " + want
                + (words.isEmpty() ? "" : ": " + words));
        }
    }

    void holds(String what, boolean is) {
        due(what, is ? 1 : 0, 1);
    }

    /** A call that is refused so, and changes nothing that is told of the object. */
    void refused(TwoOnACable x, String what, java.util.function.LongSupplier call, long want) {
        long before = x.digest();
        due(what, call.getAsLong(), want);
        due(what + " changes nothing", x.digest(), before);
    }

    void end(String name) {
        System.out.println(name + ": " + passed + " passed, " + wrong + " failed");
        if (wrong != 0 || passed == 0) {
            System.exit(1);
        }
    }

    /** Up to eight letters as letters() takes them. */
    static long bytes(String text) {
        long w = 0;
        for (int i = 0; i < text.length(); i++) {
            w |= (long) text.charAt(i) << (8 * i);
        }
        return w;
    }

    /** Puts a text of any length on THE PAGE; what the last letters() answered. */
    static int write(TwoOnACable x, String text) {
        int last = x.letters(0);
        for (int i = 0; i < text.length(); i += 8) {
            last = x.letters(bytes(text.substring(i, Math.min(text.length(), i + 8))));
        }
        return last;
    }

    static TwoOnACable wired(String text) {
        TwoOnACable x = new TwoOnACable();
        write(x, text);
        if (x.wire() < 0) {
            throw new IllegalStateException("no wire: " + text);
        }
        return x;
    }

    static void hours(TwoOnACable x, int by, int many) {
        for (int i = 0; i < many; i++) {
            x.hour(by);
        }
    }
}
