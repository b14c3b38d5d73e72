/** Promises 6, 24 and 25 at their bounds: a BOOK, what fits it, the PLACE to look at next. */
public final class BoundsBookTest {
    public static void main(String[] args) {
        Bounds.run(BoundsBookTest.class);
    }

    private static void fails(String text, int fault, int place) {
        Texts.fails("book", text, fault, place);
    }

    private static EvenFinders with(String town, String book) {
        EvenFinders x = Check.in(town);
        Check.is("the BOOK stands: " + book, Check.book(x, book) >= 0 ? 1 : 0, 1);
        return x;
    }

    private static void fit(EvenFinders x, int many, int first) {
        Check.is("how many fit", x.fits(0), many);
        Check.is("the first", x.fits(1), first);
    }

    private static void looks(EvenFinders x, int place, int left) {
        Check.is("the PLACE to look at", x.look(0), place);
        Check.is("left at the worst", x.look(1), left);
    }

    // ---- promise 6

    @Says(promise = 6, value = "Likewise the BOOK (n to 60): how many lines.")
    private static void theLengthOfABook() {
        EvenFinders x = Check.in("places 8;");
        Check.wrong("1 of 0", () -> x.book(1));
        Check.wrong("-1 of 0", () -> x.book(-1));
        String full = "0 100;1 200;2 300;3 400;4 500;5 600;6 0;7 1;";
        Check.feed(x, Texts.padded(full, 61));
        Check.is("the TAPE", x.count(1), 80);
        Check.wrong("61 of 80", () -> x.book(61));
        Check.wrong("80 of 80", () -> x.book(80));
        Check.wrong("81 of 80", () -> x.book(81));
        Check.wrong("-1 of 80", () -> x.book(-1));
        Check.wrong("least of 80", () -> x.book(Integer.MIN_VALUE));
        Check.wrong("most of 80", () -> x.book(Integer.MAX_VALUE));
        Check.is("the TAPE stays", x.count(1), 80);
        Check.is("no lines", x.told(9), 0);
        Check.is("status(0)", x.status(0), 0);
        Check.is("status(1)", x.status(1), 8);
        Check.is("60 of 80", x.book(60), 8);
        Check.is("lines", x.told(9), 8);
        Check.is("the TAPE is empty", x.count(1), 0);
        Check.feed(x, "0 1;1 1;");
        Check.wrong("21 of 20", () -> x.book(21));
        Check.is("4 of 20", x.book(4), 1);
        Check.is("lines", x.told(9), 1);
        Check.feed(x, "0 1;1 1;");
        Check.is("0 of 20", x.book(0), 0);
        Check.is("lines", x.told(9), 0);
        Check.is("the TAPE is empty", x.count(1), 0);
    }

    @Says(promise = 6, value = {"A BOOK is one of up to 60 bytes: { P W \";\" }, no P twice:",
        "at PLACE P there lies WORTH of W together (0 to 600)."})
    private static void linesOfABook() {
        EvenFinders x = Check.in("places 3;");
        Texts.stands("book", x, "", 0);
        Texts.stands("book", x, " ".repeat(60), 0);
        Texts.stands("book", x, "0 0;", 1);
        Texts.stands("book", x, "2 600;", 1);
        Texts.stands("book", x, "2 0;0 0;1 0;", 3);
        // A new BOOK takes the place of the old one.
        Texts.stands("book", x, "1 5;", 1);
        Check.is("lines", x.told(9), 1);
        fails("0 601;", 2, 2);
        fails("2 601;", 2, 2);
        fails("3 0;", 2, 0);
        fails("0 1;3 0;", 2, 4);
        fails("0 0;0 0;", 2, 4);
        fails("0 1;1 1;2 1;1 1;", 2, 12);
        fails("0 1;1 1;2 1;2 1;", 2, 12);
        fails("0;", 1, 1);
        fails("0 1", 1, 3);
        fails("0 1,", 1, 3);
        fails("0 1 2;", 1, 4);
        fails("0 1;;", 1, 4);
        fails(";", 1, 0);
        fails("x", 1, 0);
        EvenFinders y = new EvenFinders();
        Texts.stands("book", y, "", 0);
        Check.is("no PLACES", Texts.read(y, "book", "0 0;"), -8);
        Check.is("no PLACES", y.fault(), 0);
        EvenFinders z = Check.in("places 8;");
        Texts.stands("book", z, "7 600;6 600;5 600;4 600;3 600;2 600;1 600;0 600;", 8);
        Check.is("a ninth PLACE", Texts.read(z, "book", "7 600;8 0;"), -8);
        Check.is("its place", z.fault(), 6);
        Check.is("lines stay", z.told(9), 8);
    }

    @Says(promise = 6, value = {"Numbers: digits, as many as stand there;", "blanks (32) may stand ahead of all these, and at the end."})
    private static void numbersAndBlanksInABook() {
        EvenFinders x = Check.in("places 3;");
        Texts.stands("book", x, "  1   5  ;  002   0000600  ;  ", 2);
        fails("01 5;1 5;", 2, 5);
        fails("1 4294967296;", 2, 2);
        fails("4294967296 0;", 2, 0);
        fails("1 " + "9".repeat(56) + ";", 2, 2);
        fails("01;", 1, 2);
        fails("1 5x;", 1, 3);
        fails("-1 5;", 1, 0);
        fails("1 -5;", 1, 2);
        for (int other : new int[] {0, 9, 10, 13, 31, 33, 160, 255}) {
            fails("1" + (char) other + "5;", 1, 1);
            fails("1 5;" + (char) other, 1, 4);
        }
    }

    @Says(promise = 6, value = "a P twice in a BOOK);")
    private static void aPlaceTwice() {
        fails("1 5;1 5;", 2, 4);
        fails("1 5;   1 6;", 2, 7);
        fails("1 5;1", 2, 4);
        fails("1 5;1x", 2, 4);
        // At its own PLACE, not at its WORTH.
        fails("1 5;1 999;", 2, 4);
        EvenFinders x = with("places 2;", "1 5;");
        Texts.stands("book", x, "1 6;", 1);
    }

    @Says(promise = 6, value = "of one the least.")
    private static void ofOneTheLeast() {
        fails("0 1 9;", 1, 4);
        fails("0 1;1 1 999;", 1, 8);
    }

    // ---- promise 24

    @Says(promise = 24, value = {"FITS by BOOK: pairs of a THING and a PLACE by which, did that THING lie there (held or not),",
        "all else as it is, all lines are right: how many, the first (by THING, then PLACE)."})
    private static void whatFits() {
        String town = "places 3;finder 0;thing 0 5;thing 1 7;own 0 5;thing 1 2;";
        fit(with(town, ""), 12, 0);
        fit(with(town, "0 5;1 9;2 0;"), 3, 0);
        // Held, it would lie there beside the others.
        fit(with(town, "0 10;"), 1, 20);
        fit(with(town, "1 14;"), 2, 1);
        fit(with(town, "0 5;1 14;"), 1, 21);
        fit(with(town, "0 0;1 14;"), 1, 1);
        // It lies where it was no more.
        fit(with(town, "1 2;"), 2, 10);
        fit(with(town, "1 2;2 7;"), 1, 12);
        fit(with(town, "0 0;"), 2, 1);
        fit(with(town, "0 7;"), 1, 30);
        // By THING, then by PLACE.
        fit(with(town, "2 5;"), 2, 2);
        fit(with(town, "0 5;1 9;"), 1 + 2 + 1, 0);
        fit(with(town, "2 0;"), 8, 0);
        fit(with(town, "1 9;"), 6, 0);
        fit(with(town, "1 9;0 5;2 5;"), 1, 22);
    }

    @Says(promise = 24, value = "FITS: 0 how many, 1 the first (10 times the THING, and the PLACE; NONE).")
    private static void noneFitsAndTheLastFits() {
        fit(new EvenFinders(), 0, -1);
        fit(Check.in("places 8;"), 0, -1);
        fit(with("places 8;", "0 0;"), 0, -1);
        fit(with("places 1;thing 0 5;", "0 600;"), 0, -1);
        fit(with("places 1;thing 0 5;", "0 0;"), 0, -1);
        fit(with("places 1;thing 0 5;", "0 5;"), 1, 0);
        // The last of all pairs, and as many as there can be.
        String last = "places 8;finder 0;" + "thing 0 60;".repeat(9) + "own 0 1;";
        fit(with(last, "7 1;"), 1, 97);
        fit(with(last, "0 540;7 1;"), 1, 97);
        fit(with(last, ""), 80, 0);
        fit(with("places 1;" + "thing 0 60;".repeat(10), "0 600;"), 10, 0);
        fit(with("places 2;finder 1;" + "thing 0 60;".repeat(9) + "own 0 60;", "0 600;"), 1, 90);
    }

    // ---- promise 25

    @Says(promise = 25, value = {"LOOK: the PLACE in no line by which, whatever lies there then, fewest such pairs are left at the worst,",
        "of these the first."})
    private static void whereToLook() {
        // THINGS 3 and 4 at 0 and 1. By what would lie at 0: 3 of (0,0) (1,1) (1,2); 0 of (0,1) (0,2); 7 of (1,0).
        // At 1: 4 of (1,1) (0,0) (0,2); 0 of (1,0) (1,2); 7 of (0,1). At 2: 0 of four, 3 and 4 of one each.
        String town = "places 3;thing 0 3;thing 1 4;";
        looks(with(town, ""), 0, 3);
        looks(with(town, "0 3;"), 1, 2);
        looks(with(town, "1 4;"), 0, 2);
        // (0,0) and (1,1) leave nothing at 2.
        looks(with(town, "0 3;1 4;"), 2, 2);
        looks(with(town, "2 0;"), 0, 2);
        looks(with(town, "0 0;"), 1, 1);
        looks(with(town, "0 7;"), 1, 1);
        // Alike WORTH is seen alike: which THING it is does not tell.
        looks(with("places 2;thing 0 4;thing 0 4;", "0 4;"), 1, 2);
        looks(with("places 2;thing 0 4;thing 0 4;", ""), 0, 2);
        // (0,0), (0,1) and (1,2) are left: 5 at 0 of the first alone, 5 at 1 of the second alone.
        looks(with("places 3;finder 0;own 0 5;thing 2 5;", "2 5;"), 0, 2);
        // Not the first: at 2 there would lie 12 of three, 9, 8 and 7 of two each; at 0 and at 1 nothing of six.
        looks(with("places 3;thing 2 3;thing 2 4;thing 2 5;", ""), 2, 3);
    }

    @Says(promise = 25, value = {"LOOK: 0 the PLACE, 1 how many are left at the worst;",
        "NONE both: all PLACES are in lines, or there are none."})
    private static void nowhereToLook() {
        looks(new EvenFinders(), -1, -1);
        looks(with("places 1;thing 0 5;", "0 5;"), -1, -1);
        looks(with("places 1;thing 0 5;", "0 6;"), -1, -1);
        looks(with("places 8;thing 0 5;", "0 0;1 0;2 0;3 0;4 0;5 0;6 0;7 5;"), -1, -1);
        looks(with("places 8;thing 0 5;", "0 0;1 0;2 0;3 0;4 0;5 0;6 0;"), 7, 1);
        // PLACES that are in no line, but no pairs.
        looks(Check.in("places 8;"), 0, 0);
        looks(with("places 2;thing 0 5;", "0 6;"), 1, 0);
        looks(with("places 1;thing 0 5;", ""), 0, 1);
        looks(with("places 1;" + "thing 0 60;".repeat(10), ""), 0, 10);
        looks(with("places 8;finder 0;" + "own 0 60;".repeat(10), ""), 0, 70);
    }
}
