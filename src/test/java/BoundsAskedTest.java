/** Promises 18 to 23 and 26 to 37 at their bounds: ways, what is held and owed, pins, two at one find, sixpences. */
public final class BoundsAskedTest {
    public static void main(String[] args) {
        Bounds.run(BoundsAskedTest.class);
    }

    private static EvenFinders by(String town, String law, String work) {
        EvenFinders x = Check.in(town);
        if (!law.isEmpty()) {
            Check.law(x, law);
        }
        Check.work(x, work);
        Check.is("all of '" + work + "' can be done", x.told(10), 0);
        return x;
    }

    // ---- promises 18 to 21: ways

    @Says(promise = 18, value = {"FAR of two PLACES: the least LENGTH together from the one to the other one; NONE.", "FAR (0: one PLACE)."})
    private static void farthest() {
        EvenFinders x = Check.in("places 8;road 0 1 9;road 1 2 9;road 2 3 9;road 3 4 9;road 4 5 9;road 5 6 9;road 6 7 9;");
        for (int a = 0; a < 8; a++) {
            for (int b = 0; b < 8; b++) {
                Check.is("far " + a + " " + b, x.far(a, b), 9 * Math.abs(a - b));
            }
        }
        EvenFinders y = Check.in("places 4;road 0 1 9;road 1 0 8;road 2 0 3;road 1 2 4;");
        Check.is("by another PLACE", y.far(0, 1), 7);
        Check.is("and back", y.far(1, 0), 7);
        Check.is("of two the shorter", Check.in("places 2;road 0 1 9;road 0 1 8;").far(1, 0), 8);
        Check.is("of two the shorter", Check.in("places 2;road 0 1 8;road 0 1 9;").far(1, 0), 8);
        Check.is("alone", y.far(3, 3), 0);
        Check.is("no way", y.far(0, 3), -1);
        Check.is("no way", y.far(3, 0), -1);
        Check.is("1", Check.in("places 2;road 1 0 1;").far(0, 1), 1);
    }

    @Says(promise = 19, value = {"ROUND of a FINDER: the least LENGTH together by which one comes, from its PLACE, to all PLACES where a THING lies",
        "(back need not be); NONE.", "ROUND (0: nothing lies elsewhere)."})
    private static void rounds() {
        Check.is("nothing at all", Check.in("places 2;road 0 1 5;finder 0;").round(0), 0);
        Check.is("here alone", Check.in("places 2;road 0 1 5;finder 0;thing 0 1;").round(0), 0);
        Check.is("held ones do not lie", Check.in("places 2;road 0 1 5;finder 0;finder 1;own 1 5;").round(0), 0);
        Check.is("back need not be", Check.in("places 2;road 0 1 5;finder 0;thing 1 1;").round(0), 5);
        Check.is("no way", Check.in("places 3;road 0 1 5;finder 0;thing 1 1;thing 2 1;").round(0), -1);
        Check.is("no way to the only one", Check.in("places 2;finder 0;thing 1 1;").round(0), -1);
        // The nearer side first, though the farther one is nearer by its first PLACE.
        EvenFinders x = Check.in("places 5;road 2 1 1;road 1 0 9;road 2 3 2;road 3 4 2;finder 2;thing 0 1;thing 1 1;thing 4 1;");
        Check.is("first 4 and back, then 10", x.round(0), 4 + 4 + 10);
        // By a PLACE where nothing lies, and twice by one.
        EvenFinders y = Check.in("places 4;road 0 1 1;road 0 2 2;road 0 3 3;finder 1;finder 0;thing 2 1;thing 3 1;");
        Check.is("round", y.round(0), 1 + 2 + 2 + 3);
        Check.is("round", y.round(1), 2 + 2 + 3);
        // PLACES where nothing lies are no goals, the first one and those of what is held least of all.
        EvenFinders w = Check.in("places 4;road 1 2 5;finder 0;finder 1;finder 3;own 0 9;thing 2 1;own 2 9;");
        Check.is("past what is held", w.round(1), 5);
        Check.is("no way", w.round(0), -1);
        Check.is("no way", w.round(2), -1);
        // All eight PLACES, as far as can be.
        EvenFinders z = Check.in("places 8;" + "road 0 1 9;road 0 2 9;road 0 3 9;road 0 4 9;road 0 5 9;road 0 6 9;road 0 7 9;"
                + "finder 7;thing 0 1;thing 1 1;thing 2 1;thing 3 1;thing 4 1;thing 5 1;thing 6 1;thing 7 1;");
        Check.is("a star from a tip", z.round(0), 9 + 6 * 9 + 5 * 9);
    }

    @Says(promise = 20, value = {"MEET: the PLACE to which all FINDERS have least to walk together; of alike ones the first;",
        "NONE (there are none, or none that all can come to).", "MEET: 0 the PLACE, 1 what all have to walk together; NONE both."})
    private static void meetings() {
        String line = "places 4;road 3 2 5;road 2 1 5;";
        meets(line + "finder 1;finder 3;", 1, 10);
        meets(line + "finder 3;finder 1;", 1, 10);
        meets(line + "finder 1;finder 3;finder 2;", 2, 10);
        meets(line + "finder 3;finder 3;finder 1;", 3, 10);
        meets(line + "finder 0;", 0, 0);
        meets(line + "finder 3;", 3, 0);
        meets(line + "finder 3;finder 0;", -1, -1);
        meets(line, -1, -1);
        meets("", -1, -1);
        meets("places 3;finder 2;finder 2;", 2, 0);
        meets("places 3;finder 2;finder 1;", -1, -1);
        // PLACE 2 is at the end of nobody, but best.
        meets("places 4;road 0 2 3;road 1 2 3;road 3 2 3;finder 0;finder 1;finder 3;", 2, 9);
        meets("places 8;road 0 1 9;road 1 2 9;road 2 3 9;road 3 4 9;road 4 5 9;road 5 6 9;road 6 7 9;"
                + "finder 0;finder 0;finder 0;finder 7;finder 7;finder 7;", 0, 3 * 63);
    }

    private static void meets(String town, int place, int together) {
        EvenFinders x = Check.in(town);
        Check.is("where by " + town, x.meet(0), place);
        Check.is("together by " + town, x.meet(1), together);
    }

    @Says(promise = 21, value = {"REACH of a FINDER: THINGS that lie where it could still walk to this DAY (at its PLACE, too).", "REACH, as bits."})
    private static void reaches() {
        String town = "places 6;road 0 1 8;road 1 2 8;road 2 3 8;road 2 4 9;road 0 1 1;finder 0;"
                + "thing 0 1;thing 1 1;thing 2 1;thing 3 1;thing 4 1;thing 5 1;own 0 1;";
        // By 1 and 8 it is 9 to PLACE 2, 17 to 3, 18 to 4.
        Check.is("24 are left", by(town, "", "").reach(0), 0b011111);
        Check.is("18 are left", by(town, "", "walk 0 4;".repeat(6)).reach(0), 0b011111);
        Check.is("16 are left", by(town, "", "walk 0 4;".repeat(8)).reach(0), 0b000111);
        Check.is("8 are left", by(town, "", "walk 0 0;walk 0 0;").reach(0), 0b000011);
        Check.is("none is left: at its PLACE", by(town, "", "walk 0 0;walk 0 1;walk 0 1;").reach(0), 0b000010);
        Check.is("a new DAY", by(town, "", "walk 0 0;walk 0 1;walk 0 1;night;walk 0 4;").reach(0), 0b011111);
        // 24 can be walked still, 25 can't.
        String line = "places 4;road 0 1 8;road 1 2 8;road 2 3 %d;finder 0;thing 3 5;";
        Check.is("24", Check.in(String.format(line, 8)).reach(0), 1);
        Check.is("25", Check.in(String.format(line, 9)).reach(0), 0);
        EvenFinders last = by("places 3;road 0 1 9;road 1 2 8;" + "finder 0;".repeat(5) + "finder 1;thing 2 1;thing 0 1;", "", "walk 5 1;walk 5 1;");
        Check.is("the last FINDER: 8 are left", last.reach(5), 0b01);
        Check.is("another one: 24 are left", last.reach(4), 0b11);
        Check.is("nothing", Check.in("places 1;finder 0;").reach(0), 0);
        Check.is("all", Check.in("places 1;finder 0;" + "thing 0 1;".repeat(10)).reach(0), 1023);
    }

    // ---- promises 22, 23 and 37: what is held

    @Says(promise = 22, value = {"SETTLE of a FINDER: of all sets of THINGS it holds whose WORTH together is what it OWES, or more,",
        "that of least WORTH together; of alike ones the fewest, of as few the least bits; NONE (0, if it OWES 0 or less).", "SETTLE, as bits."})
    private static void settles() {
        String town = "places 1;finder 0;finder 0;thing 0 1;own 1 9;";
        // The one THING found is WORTH 1 and held, too (bit 0).
        settle(town + "own 0 5;", "5", 0b100);
        settle(town + "own 0 5;", "6", 0b101);
        settle(town + "own 0 5;", "7", -1);
        settle(town + "own 0 5;", "1", 0b001);
        settle(town + "own 0 5;own 0 7;own 0 6;", "6", 0b10000);
        settle(town + "own 0 5;own 0 7;", "7", 0b1000);
        settle(town + "own 0 9;own 0 8;own 0 8;", "8", 0b1000);
        // Alike WORTH: the fewest, then the least bits.
        settle(town + "own 0 2;own 0 2;own 0 2;own 0 6;", "6", 0b100000);
        settle(town + "own 0 2;own 0 4;own 0 3;own 0 3;", "6", 0b1100);
        settle(town + "own 0 3;own 0 3;own 0 2;own 0 4;", "6", 0b1100);
        settle(town + "own 0 4;own 0 3;own 0 2;own 0 3;", "6", 0b10100);
        // Least WORTH goes ahead of fewest.
        settle(town + "own 0 10;own 0 3;own 0 3;own 0 3;", "9", 0b111000);
        EvenFinders all = by("places 1;finder 0;" + "own 0 10;".repeat(9) + "thing 0 9;", "99", "find 0 9;");
        Check.is("all ten", all.settle(0), 1023);
        EvenFinders last = by("places 2;" + "finder 1;".repeat(6) + "own 5 4;own 5 6;own 0 5;thing 1 1;", "6", "find 5 3;");
        Check.is("the last FINDER", last.settle(5), 0b0010);
        Check.is("another one", last.settle(0), 0);
        Check.is("EVEN", by(town + "own 0 5;", "0", "find 0 0;").settle(0), 0);
        Check.is("OWES -1", by(town + "own 0 1;", "", "slip 0 2;").settle(0), 0);
        Check.is("holds nothing, OWES nothing", by("places 1;finder 0;", "", "").settle(0), 0);
        Check.is("holds nothing, OWES 1", by("places 1;finder 0;thing 0 1;", "1", "find 0 0;night;").settle(0), -1);
    }

    private static void settle(String town, String duty, int due) {
        Check.is("settle " + duty + " by " + town, by(town, duty, "find 0 0;").settle(0), due);
    }

    @Says(promise = 23, value = {"PARTS of a FINDER to n: how many sets of THINGS it holds are WORTH n together.", "PARTS to n (0 to 600)."})
    private static void partsOfWhatIsHeld() {
        EvenFinders x = Check.in("places 1;finder 0;finder 0;" + "own 0 60;".repeat(10));
        int[] choose = {1, 10, 45, 120, 210, 252, 210, 120, 45, 10, 1};
        for (int n = 0; n <= 10; n++) {
            Check.is("parts " + 60 * n, x.parts(0, 60 * n), choose[n]);
            Check.is("of nothing " + 60 * n, x.parts(1, 60 * n), n == 0 ? 1 : 0);
        }
        Check.is("599", x.parts(0, 599), 0);
        Check.is("1", x.parts(0, 1), 0);
        EvenFinders y = Check.in("places 1;finder 0;finder 0;own 0 1;own 0 2;own 1 3;thing 0 3;own 0 3;own 0 3;");
        int[] due = {1, 1, 1, 3, 2, 2, 3, 1, 1, 1};
        for (int n = 0; n < due.length; n++) {
            Check.is("parts " + n, y.parts(0, n), due[n]);
        }
        Check.wrong("-1", () -> x.parts(0, -1));
        Check.wrong("601", () -> x.parts(0, 601));
        Check.unknown("FINDER 2", () -> x.parts(2, 601));
        Check.is("status(0)", x.status(0), 1);
        Check.is("status(1)", x.status(1), 2);
    }

    @Says(promise = 37, value = "THINGS (bits) a FINDER holds of which each by itself would make it EVEN, were it lost now (0: it OWES 0 or less).")
    private static void enoughByItself() {
        String town = "places 1;finder 0;finder 0;thing 0 1;own 0 6;own 0 7;own 0 8;own 1 9;own 0 7;thing 0 9;";
        Check.is("7", by(town, "7", "find 0 0;").enough(0), 0b101100);
        Check.is("1", by(town, "1", "find 0 0;").enough(0), 0b101111);
        Check.is("8", by(town, "8", "find 0 0;").enough(0), 0b001000);
        Check.is("9", by(town, "9", "find 0 0;").enough(0), 0);
        Check.is("0", by(town, "0", "find 0 0;").enough(0), 0);
        Check.is("EVEN", by(town, "", "").enough(0), 0);
        Check.is("credit", by(town, "", "slip 0 1;").enough(0), 0);
        Check.is("holds nothing", by("places 1;finder 0;thing 0 1;", "", "find 0 0;night;").enough(0), 0);
        Check.is("all", by("places 1;finder 0;" + "own 0 60;".repeat(9) + "thing 0 60;", "", "find 0 9;").enough(0), 1023);
        EvenFinders last = by("places 2;" + "finder 1;".repeat(6) + "own 5 4;own 5 6;own 0 9;thing 1 1;", "6", "find 5 3;");
        Check.is("the last FINDER", last.enough(5), 0b0010);
        Check.is("another one", last.enough(0), 0);
        EvenFinders x = by(town, "7", "find 0 0;");
        Check.is("it would be", Check.work(x, "lose 0 2;"), 1);
        Check.is("EVEN", x.finder(0, 1), 0);
    }

    // ---- promises 26 to 28

    @Says(promise = 26, value = {"PINS of n, m, k: of n pins m are bent; k are picked up at once, each k alike likely: how likely one is bent, or more are.",
        "PINS of n (0 to 20), m (0 to n), k (0 to n): above (part 0), below (part 1), in least terms."})
    private static void pinsOfAllNumbers() {
        long[][] ways = new long[21][21];
        for (int n = 0; n <= 20; n++) {
            for (int k = 0; k <= n; k++) {
                ways[n][k] = k == 0 || k == n ? 1 : ways[n - 1][k - 1] + ways[n - 1][k];
            }
        }
        // 1771 threes of numbers; a new object for each n keeps within 512 calls.
        for (int n = 0; n <= 20; n++) {
            for (int m = 0; m <= n; m++) {
                EvenFinders x = new EvenFinders();
                for (int k = 0; k <= n; k++) {
                    long below = ways[n][k];
                    long above = below - (k <= n - m ? ways[n - m][k] : 0);
                    long common = java.math.BigInteger.valueOf(above).gcd(java.math.BigInteger.valueOf(below)).longValue();
                    Check.is("above " + n + " " + m + " " + k, x.pins(n, m, k, 0), above / common);
                    Check.is("below " + n + " " + m + " " + k, x.pins(n, m, k, 1), below / common);
                }
            }
        }
        EvenFinders y = new EvenFinders();
        pins(y, 0, 0, 0, 0, 1);
        pins(y, 20, 0, 20, 0, 1);
        pins(y, 20, 20, 0, 0, 1);
        pins(y, 20, 20, 20, 1, 1);
        pins(y, 20, 1, 20, 1, 1);
        pins(y, 20, 1, 19, 19, 20);
        pins(y, 20, 10, 10, 184755, 184756);
        int[][] wrong = {{-1, 0, 0, 0}, {21, 0, 0, 0}, {21, 21, 21, 0}, {20, -1, 0, 0}, {20, 21, 0, 0}, {20, 0, -1, 0},
            {20, 0, 21, 0}, {3, 4, 0, 0}, {3, 0, 4, 0}, {0, 1, 0, 0}, {0, 0, 1, 0}, {20, 1, 1, -1}, {20, 1, 1, 2},
            {Integer.MAX_VALUE, 0, 0, 0}, {Integer.MIN_VALUE, 0, 0, 0}};
        for (int[] a : wrong) {
            Check.wrong("pins", () -> y.pins(a[0], a[1], a[2], a[3]));
        }
        Check.is("status(1)", y.status(1), wrong.length);
        Check.is("status(0)", y.status(0), 0);
    }

    private static void pins(EvenFinders x, int n, int m, int k, long above, long below) {
        Check.is("above", x.pins(n, m, k, 0), above);
        Check.is("below", x.pins(n, m, k, 1), below);
    }

    @Says(promise = 27, value = {"AT ONE of two by v, w: each takes it, or goes by: one takes it: he has v less w, the other one 0;",
        "both take it: each has 0 less w; both go by: each has 0; RESTS: neither would have more by the other thing.",
        "AT ONE by v, w (0 to 99): 0 how many RESTS, 1 the first (10 times what the one does, 0 he takes it, 1 he goes by, and the other one; NONE),",
        "2 what both have by it together (0 without)."})
    private static void twoAtOneFind() {
        // Below, at and above one another, and at 0. There is always a rest.
        takes(5, 4, 2, 1, 1);
        takes(5, 5, 3, 1, 0);
        takes(5, 6, 1, 11, 0);
        takes(0, 0, 4, 0, 0);
        takes(1, 0, 3, 0, 0);
        takes(99, 0, 3, 0, 0);
        takes(0, 1, 1, 11, 0);
        takes(0, 99, 1, 11, 0);
        takes(99, 99, 3, 1, 0);
        takes(99, 98, 2, 1, 1);
        takes(98, 99, 1, 11, 0);
        takes(99, 1, 2, 1, 98);
        EvenFinders y = new EvenFinders();
        int[][] wrong = {{-1, 0, 0}, {100, 0, 0}, {0, -1, 0}, {0, 100, 0}, {0, 0, -1}, {0, 0, 3}};
        for (int[] a : wrong) {
            Check.wrong("takes", () -> y.takes(a[0], a[1], a[2]));
        }
        Check.is("status(1)", y.status(1), wrong.length);
    }

    private static void takes(int v, int w, int rests, int first, int together) {
        EvenFinders x = new EvenFinders();
        Check.is("rests of " + v + " " + w, x.takes(v, w, 0), rests);
        Check.is("the first of " + v + " " + w, x.takes(v, w, 1), first);
        Check.is("together by " + v + " " + w, x.takes(v, w, 2), together);
    }

    @Says(promise = 28, value = {"SIXPENCE of n among told FINDERS (bits) by WORTH of what they hold: levelled: no more than that each,",
        "no more than a bound, the greatest by which no more than n are given (all, if they are no more).",
        "What a FINDER gets of n (0 to 999) by SIXPENCE among told FINDERS (0, if it is none of them)."})
    private static void sixpencesShared() {
        String town = "places 1;finder 0;finder 0;finder 0;finder 0;own 0 3;own 1 5;own 2 10;own 2 10;thing 0 9;";
        shares(town, 0b1111, 0, 0, 0, 0, 0);
        shares(town, 0b1111, 2, 0, 0, 0, 0);
        shares(town, 0b1111, 3, 1, 1, 1, 0);
        shares(town, 0b1111, 8, 2, 2, 2, 0);
        shares(town, 0b1111, 9, 3, 3, 3, 0);
        shares(town, 0b1111, 10, 3, 3, 3, 0);
        shares(town, 0b1111, 11, 3, 4, 4, 0);
        shares(town, 0b1111, 13, 3, 5, 5, 0);
        shares(town, 0b1111, 14, 3, 5, 6, 0);
        shares(town, 0b1111, 27, 3, 5, 19, 0);
        shares(town, 0b1111, 28, 3, 5, 20, 0);
        shares(town, 0b1111, 29, 3, 5, 20, 0);
        shares(town, 0b1111, 999, 3, 5, 20, 0);
        shares(town, 0b0110, 7, 0, 3, 3, 0);
        shares(town, 0b0100, 7, 0, 0, 7, 0);
        shares(town, 0b0001, 7, 3, 0, 0, 0);
        shares(town, 0b1000, 7, 0, 0, 0, 0);
        shares(town, 0, 7, 0, 0, 0, 0);
        shares("places 1;finder 0;" + "own 0 60;".repeat(10), 1, 599, 599);
        shares("places 1;finder 0;" + "own 0 60;".repeat(10), 1, 600, 600);
        shares("places 1;finder 0;" + "own 0 60;".repeat(10), 1, 999, 600);
    }

    private static void shares(String town, int finders, int n, int... due) {
        EvenFinders x = Check.in(town);
        for (int finder = 0; finder < due.length; finder++) {
            Check.is(n + " among " + finders + " to " + finder, x.sixpence(finder, finders, n), due[finder]);
        }
    }

    @Says(promise = 28, value = "IllegalArgumentException: bits of no FINDERS.")
    private static void bitsOfNoFinders() {
        for (int many = 1; many <= 6; many++) {
            EvenFinders x = Check.in("places 1;" + "finder 0;".repeat(many) + "own 0 9;");
            int all = (1 << many) - 1;
            Check.is("all of " + many, x.sixpence(0, all, 9), 9);
            Check.wrong("one more than " + many, () -> x.sixpence(0, all + 1, 9));
            Check.wrong("one more besides " + many, () -> x.sixpence(0, 2 * all + 1, 9));
            Check.wrong("the last bit", () -> x.sixpence(0, Integer.MIN_VALUE, 9));
            Check.wrong("the last bit besides", () -> x.sixpence(0, Integer.MIN_VALUE | 1, 9));
            Check.wrong("all bits", () -> x.sixpence(0, -1, 9));
            Check.wrong("all but the last", () -> x.sixpence(0, Integer.MAX_VALUE, 9));
            Check.is("status(1)", x.status(1), 6);
            Check.is("status(0)", x.status(0), 0);
        }
        EvenFinders y = new EvenFinders();
        Check.unknown("no FINDERS at all", () -> y.sixpence(0, 0, 0));
    }

    // ---- promises 29 to 36

    @Says(promise = 29, value = {"The THING of greatest WORTH that lies about (what 0), of alike ones the first, its WORTH (1);",
        "NONE both: nothing lies about."})
    private static void greatestThatLies() {
        greatest("places 1;finder 0;own 0 60;thing 0 1;", 1, 1);
        greatest("places 2;finder 0;thing 0 4;thing 1 5;thing 0 5;own 0 9;", 1, 5);
        greatest("places 2;finder 0;thing 1 6;thing 1 5;thing 0 6;own 0 9;", 0, 6);
        greatest("places 1;" + "thing 0 59;".repeat(9) + "thing 0 60;", 9, 60);
        greatest("places 1;finder 0;own 0 60;", -1, -1);
        greatest("places 1;", -1, -1);
        greatest("", -1, -1);
    }

    private static void greatest(String town, int thing, int worth) {
        EvenFinders x = Check.in(town);
        Check.is("greatest by " + town, x.greatest(0), thing);
        Check.is("its WORTH by " + town, x.greatest(1), worth);
    }

    @Says(promise = 30, value = {"The FINDER who OWES most (what 0), of alike ones the first, how much (1; below 0, too);", "NONE, 0: there are none."})
    private static void whoOwesMost() {
        String town = "places 1;finder 0;finder 0;finder 0;own 0 9;own 1 4;own 2 4;thing 0 1;thing 0 2;thing 0 2;";
        deepest(by(town, "", ""), 0, 0);
        deepest(by(town, "", "slip 0 0;"), 1, 0);
        deepest(by(town, "", "slip 0 0;slip 1 1;slip 2 2;"), 1, -4);
        deepest(by(town, "", "find 0 3;find 1 4;find 2 5;"), 1, 2);
        deepest(by(town, "99", "find 2 3;"), 2, 99);
        deepest(new EvenFinders(), -1, 0);
        deepest(Check.in("places 1;thing 0 1;"), -1, 0);
        deepest(by("places 1;finder 0;own 0 60;own 0 60;", "", "slip 0 0;slip 0 1;"), 0, -99);
    }

    private static void deepest(EvenFinders x, int finder, int owes) {
        Check.is("who", x.deepest(0), finder);
        Check.is("how much", x.deepest(1), owes);
    }

    @Says(promise = 31, value = "PLACES (bits) where nothing lies, and nobody is.")
    private static void emptyPlaces() {
        Check.is("no PLACES", new EvenFinders().empty(), 0);
        Check.is("all", Check.in("places 8;").empty(), 255);
        Check.is("one of each", Check.in("places 4;road 1 2 1;finder 1;thing 2 1;own 0 1;").empty(), 0b1001);
        Check.is("none", Check.in("places 2;finder 0;thing 1 1;").empty(), 0);
        EvenFinders x = by("places 3;road 1 2 1;finder 1;thing 1 1;own 0 1;", "", "find 0 0;walk 0 0;");
        Check.is("all went along", x.empty(), 0b011);
    }

    @Says(promise = 32, value = "FINDERS (bits) who could find any THING now.")
    private static void whoCouldFind() {
        Check.is("nobody", new EvenFinders().lucky(), 0);
        Check.is("nothing", Check.in("places 1;finder 0;own 0 1;").lucky(), 0);
        Check.is("elsewhere", Check.in("places 2;finder 0;thing 1 1;").lucky(), 0);
        Check.is("all six", Check.in("places 1;" + "finder 0;".repeat(6) + "thing 0 1;").lucky(), 63);
        // OWES 1, 0 and -1.
        String town = "places 1;finder 0;finder 0;finder 0;thing 0 1;own 2 1;thing 0 5;";
        Check.is("who OWES nothing", by(town, "", "find 0 0;slip 2 1;").lucky(), 0b110);
        String six = "places 2;" + "finder 0;".repeat(6) + "thing 0 1;thing 0 1;thing 0 1;";
        Check.is("who OWES nothing of six", by(six, "", "find 1 0;find 5 1;").lucky(), 0b011101);
    }

    @Says(promise = 33, value = "FINDERS (bits) who hold THINGS of more WORTH than they OWE (what 0), of as much (1), of less (2).")
    private static void whoIsSound() {
        // Each finds a THING WORTH 5, and OWES 5: holds 5 and 1, 5, 5 less what a night took, nothing and OWES nothing.
        EvenFinders x = by("places 1;finder 0;finder 0;finder 0;finder 0;thing 0 5;thing 0 5;own 0 1;own 3 5;", "",
                "find 0 0;find 1 1;");
        sound(x, 0b1001, 0b0110, 0);
        Check.work(x, "night;slip 3 3;");
        // FINDER 0 lost 1, FINDER 1 all; FINDER 3 holds 0 and OWES -5.
        sound(x, 0b1000, 0b0101, 0b0010);
        sound(new EvenFinders(), 0, 0, 0);
        sound(Check.in("places 1;" + "finder 0;".repeat(6)), 0, 63, 0);
        EvenFinders y = by("places 1;finder 0;thing 0 5;", "6", "find 0 0;");
        sound(y, 0, 0, 1);
        EvenFinders z = by("places 1;finder 0;thing 0 5;", "4", "find 0 0;");
        sound(z, 1, 0, 0);
    }

    private static void sound(EvenFinders x, int more, int same, int less) {
        Check.is("more", x.sound(0), more);
        Check.is("as much", x.sound(1), same);
        Check.is("less", x.sound(2), less);
    }

    @Says(promise = 34, value = "What a FINDER must walk to a THING that lies about; NONE: it is held, or can't be come to.")
    private static void waysToThings() {
        EvenFinders x = Check.in("places 4;road 0 1 9;road 1 2 9;road 0 2 9;finder 0;finder 1;"
                + "thing 0 1;thing 2 1;thing 3 1;own 0 1;own 1 1;");
        int[] due = {0, 9, -1, -1, -1};
        for (int thing = 0; thing < due.length; thing++) {
            Check.is("way to " + thing, x.way(0, thing), due[thing]);
        }
        Check.is("the other's", x.way(1, 0), 9);
        // What it has walked, and whether it could today, does not count.
        Check.work(x, "walk 0 0;walk 0 0;");
        Check.is("way", x.way(0, 1), 9);
    }

    @Says(promise = 35, value = "What all who OWE more than 0 OWE together (what 0), what all others have as credit together (1: 0 or more).")
    private static void whatAllOwe() {
        String town = "places 1;finder 0;finder 0;finder 0;own 0 9;own 1 4;thing 0 7;thing 0 2;";
        burden(new EvenFinders(), 0, 0);
        burden(by(town, "", ""), 0, 0);
        burden(by(town, "", "slip 0 0;slip 1 1;"), 0, 13);
        burden(by(town, "", "slip 0 0;find 1 2;find 2 3;"), 9, 9);
        burden(by(town, "", "find 0 2;find 1 3;"), 9, 0);
        String six = "places 1;" + "finder 0;".repeat(6) + "thing 0 1;".repeat(6);
        burden(by(six, "99", "find 0 0;find 1 1;find 2 2;find 3 3;find 4 4;find 5 5;"), 6 * 99, 0);
        // Where they are, and what they walked, is not owed.
        String apart = "places 8;road 6 7 9;" + "finder 7;".repeat(6) + "own 5 3;thing 7 4;";
        burden(by(apart, "", "walk 0 0;walk 0 0;slip 5 0;find 4 1;"), 4, 3);
    }

    private static void burden(EvenFinders x, int owed, int credit) {
        Check.is("owed", x.burden(0), owed);
        Check.is("credit", x.burden(1), credit);
    }

    @Says(promise = 36, value = {"The THING that lies about nearest to a FINDER (what 0), of alike ones the first, what it must walk to it (1);",
        "NONE both: there is none it can come to."})
    private static void nearestThings() {
        near("places 2;road 0 1 5;finder 0;thing 1 1;thing 1 2;", 0, 5);
        near("places 2;road 0 1 5;finder 0;thing 1 1;thing 0 2;", 1, 0);
        near("places 3;road 0 1 5;road 0 2 5;finder 0;thing 2 1;thing 1 1;", 0, 5);
        near("places 3;road 0 1 5;road 0 2 4;finder 0;thing 1 1;thing 2 1;", 1, 4);
        near("places 2;road 0 1 5;finder 0;own 0 1;thing 1 1;", 1, 5);
        near("places 2;road 0 1 5;finder 0;own 0 1;", -1, -1);
        near("places 2;finder 0;thing 1 1;", -1, -1);
        near("places 2;finder 0;", -1, -1);
        near("places 8;road 0 1 9;road 1 2 9;road 2 3 9;road 3 4 9;road 4 5 9;road 5 6 9;road 6 7 9;finder 0;thing 7 1;", 0, 63);
    }

    private static void near(String town, int thing, int walk) {
        EvenFinders x = Check.in(town);
        Check.is("nearest by " + town, x.near(0, 0), thing);
        Check.is("to walk by " + town, x.near(0, 1), walk);
    }
}
