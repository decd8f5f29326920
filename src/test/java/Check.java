/** Counts the answers that are not as due, and tells each. */
final class Check {
    private final String name;
    private int asked;
    private int wrong;

    Check(String name) {
        this.name = name;
    }

    void due(String call, long got, long want) {
        asked++;
        if (got != want) {
            wrong++;
            System.out.println(name + ": " + call + " answered " + got + ", due is " + want);
        }
    }

    void holds(String what, boolean it) {
        due(what, it ? 1 : 0, 1);
    }

    /** Feeds a text byte by byte; what it tells is asked of text(). */
    static MangleLine fed(MangleLine x, String text) {
        for (int i = 0; i < text.length(); i++) {
            x.feed(text.charAt(i));
        }
        return x;
    }

    /** A new object that has been told a text. */
    static MangleLine told(String text) {
        MangleLine x = fed(new MangleLine(), text);
        if (x.text() < 0) {
            throw new IllegalStateException("the test's own text is refused: " + text);
        }
        return x;
    }

    void end() {
        System.out.println(name + ": " + (asked - wrong) + " of " + asked + " as due");
        if (wrong != 0) {
            System.exit(1);
        }
    }
}
