/** What the tests of the four texts share: a text that stands, and one that has a FAULT. */
final class Texts {
    private static final String FULL = Drain.of(Drain.full());

    private Texts() {
    }

    static int read(EvenFinders x, String kind, int n) {
        switch (kind) {
            case "town": return x.town(n);
            case "law": return x.law(n);
            case "work": return x.work(n);
            default: return x.book(n);
        }
    }

    static int read(EvenFinders x, String kind, String text) {
        Check.feed(x, text);
        return read(x, kind, text.length());
    }

    /** The FAULT less 10, its place, an empty TAPE; all else stays, and no call counts as refused. */
    static void fails(String kind, String text, int fault, int place) {
        EvenFinders x = Drain.full();
        String label = kind + " '" + text + "'";
        Check.is(label, read(x, kind, text), fault - 10);
        Check.is("fault() of " + label, x.fault(), place);
        Check.is("the TAPE behind " + label, x.count(1), 0);
        Check.is("status(0) behind " + label, x.status(0), Drain.UNKNOWN_CALLS);
        Check.is("status(1) behind " + label, x.status(1), Drain.WRONG_CALLS);
        Check.same("what stays behind " + label, Drain.of(x), FULL);
    }

    static EvenFinders stands(String kind, EvenFinders x, String text, int answer) {
        String label = kind + " '" + text + "'";
        Check.is(label, read(x, kind, text), answer);
        Check.is("fault() of " + label, x.fault(), -1);
        Check.is("the TAPE behind " + label, x.count(1), 0);
        return x;
    }

    /** A text of n bytes, blanks at its end. */
    static String padded(String text, int n) {
        return text + " ".repeat(n - text.length());
    }
}
