/** Promises 38 to 43 at their bounds: YEARS by SEEDS, IMAGES, and what is counted. */
public final class BoundsYearsTest {
    public static void main(String[] args) {
        Bounds.run(BoundsYearsTest.class);
    }

    /** By SEED 1 come 16838, 5758, 10113, 17515, 31051, 5627, 23010, 7419, 16212, 4086, 2749 and 12767. */
    private static void year(EvenFinders x, int q, int days, int finds, int held, int shamed, int even) {
        Check.is("finds by " + q, x.year(1, q, days, 0), finds);
        Check.is("held by " + q, x.year(1, q, days, 1), held);
        Check.is("SHAMED by " + q, x.year(1, q, days, 2), shamed);
        Check.is("EVEN by " + q, x.year(1, q, days, 3), even);
    }

    // ---- promises 38 and 39

    @Says(promise = 38, value = {"DRAW: the SEED (32 bits) becomes itself times 1,103,515,245, and 12,345 (it wraps); its bits 16 to 30, what is left of them.",
        "three times, one behind the other, all of this: DRAW by how many FINDERS, by how many ROADS, by how many THINGS:"})
    private static void drawsOfSeedOne() {
        // 16838 by 2 is FINDER 0, 5758 by 2 ROAD 0, 10113 by 4 THING 1; 31051 by 2 is FINDER 1, 5627 by 2 ROAD 1,
        // 23010 by 4 THING 2; 16212 by 2 is FINDER 0, 4086 by 2 ROAD 0, 2749 by 4 THING 1.
        EvenFinders x = Check.in("places 3;road 0 1 1;road 0 2 1;finder 0;finder 0;thing 0 1;thing 1 2;thing 2 4;thing 0 8;");
        // Both find, FINDER 0 walks back and loses what it found, the night takes the other's.
        year(x, 0, 1, 2, 0, 1, 0b01);
        // For nothing: both keep what they found.
        Check.law(x, "0");
        year(x, 0, 1, 2, 0b0110, 0, 0b11);
        // Only by these DRAWS: were the THINGS elsewhere, nobody would find any.
        EvenFinders y = Check.in("places 3;road 0 1 1;road 0 2 1;finder 0;finder 0;thing 1 1;thing 2 2;thing 1 4;thing 2 8;");
        year(y, 0, 1, 0, 0, 0, 0b11);
    }

    @Says(promise = 38, value = {"walk (if it can be done), then find, else lose (if it can),",
        "then DRAW by 16 below Q: slip of that THING by that FINDER (if it can);", "behind the three times night."})
    private static void slipsBelowQ() {
        // One of each: each time walk, find or lose. 17515 by 16 is 11, 7419 is 11, too, 12767 is 15.
        EvenFinders x = Check.in("places 2;road 0 1 1;finder 0;thing 1 5;");
        // Found at 1, lost at 0 as it is owed, then found no more: it lies at 0, the FINDER at 1.
        year(x, 0, 1, 1, 0, 0, 1);
        year(x, 11, 1, 1, 0, 0, 1);
        // Slipped at 1; at 0 nothing lies; at 1 found and kept into the night, which takes it.
        year(x, 12, 1, 2, 0, 1, 0);
        year(x, 15, 1, 2, 0, 1, 0);
        // The third is let slip, too.
        year(x, 16, 1, 2, 0, 0, 1);
        // A ROAD that leads nowhere near is not walked, the THING is found all the same.
        EvenFinders y = Check.in("places 3;road 1 2 1;finder 0;thing 0 5;");
        year(y, 0, 1, 2, 0, 1, 0);
    }

    @Says(promise = 38, value = "A YEAR by a SEED: for so many DAYS:")
    private static void walksOfADay() {
        // Three ROADS of 9 are 27: the third is not walked this DAY. The same STEPS are done by WORK, two a time.
        String town = "places 2;road 0 1 9;finder 0;own 0 5;thing 1 60;";
        for (int start = 0; start < 40; start++) {
            EvenFinders x = Check.in(town);
            EvenFinders y = Check.in(town);
            int seed = start;
            for (int day = 1; day <= 2; day++) {
                for (int time = 0; time < 3; time++) {
                    seed = next(next(next(seed)));
                    int thing = (seed >>> 16 & 32767) % 2;
                    seed = next(seed);
                    Check.work(y, "walk 0 0;");
                    Check.work(y, (y.can(0, thing) ? "find 0 " : "lose 0 ") + thing + ";");
                }
                Check.is("night", Check.work(y, "night;"), 1);
                Check.is("finds in " + day + " DAYS", x.year(start, 0, day, 0), y.finder(0, 5));
                Check.is("held in " + day + " DAYS", x.year(start, 0, day, 1), y.told(5));
                Check.is("SHAMED in " + day + " DAYS", x.year(start, 0, day, 2), y.told(11));
                Check.is("EVEN in " + day + " DAYS", x.year(start, 0, day, 3), y.told(6));
            }
        }
    }

    private static int next(int seed) {
        return seed * 1103515245 + 12345;
    }

    @Says(promise = 38, value = "Without FINDERS, ROADS or THINGS nothing is DRAWN, DAYS go by.")
    private static void nothingIsDrawn() {
        year(new EvenFinders(), 16, 96, 0, 0, 0, 0);
        // No ROADS: what could be found here is not, but nights go by.
        EvenFinders x = Check.in("places 1;finder 0;thing 0 1;own 0 2;own 0 3;thing 0 4;");
        year(x, 16, 96, 0, 0b0110, 0, 1);
        Check.work(x, "find 0 3;");
        year(x, 16, 1, 0, 0b1100, 1, 0);
        year(x, 16, 2, 0, 0b1000, 2, 0);
        year(x, 16, 96, 0, 0, 96, 0);
        // No FINDERS, no THINGS.
        year(Check.in("places 2;road 0 1 1;thing 0 1;"), 16, 96, 0, 0, 0, 0);
        year(Check.in("places 2;road 0 1 1;finder 0;"), 16, 96, 0, 0, 0, 1);
        EvenFinders y = Check.in("places 2;road 0 1 1;finder 0;");
        Check.is("fewest", y.span(1, 20, 16, 96, 0, 0), 0);
        Check.is("most", y.span(1, 20, 16, 96, 1, 0), 0);
        Check.is("EVEN", y.span(1, 20, 16, 96, 2, 0), 20);
    }

    @Says(promise = 38, value = {"A YEAR of so many DAYS (1 to 96), Q (0 to 16): 0 finds in it, 1 THINGS that are held then (bits),",
        "2 how often one was SHAMED in it, 3 FINDERS who are EVEN then (bits)."})
    private static void yearsAtTheirBounds() {
        EvenFinders x = Check.in("places 2;road 0 1 1;finder 0;finder 1;own 0 9;own 1 8;thing 1 5;");
        Check.work(x, "find 1 2;night;night;");
        Check.is("SHAMED ahead", x.told(11), 2);
        // A year without DRAWS that could help: what was ahead of it is not counted.
        EvenFinders y = Check.in("places 1;finder 0;thing 0 5;");
        Check.work(y, "find 0 0;night;night;");
        Check.is("SHAMED in it", y.year(7, 0, 1, 2), 1);
        Check.is("SHAMED in it", y.year(7, 0, 96, 2), 96);
        Check.is("finds in it", y.year(7, 0, 96, 0), 0);
        int[] seeds = {0, 1, -1, Integer.MAX_VALUE, Integer.MIN_VALUE};
        for (int seed : seeds) {
            int held = x.year(seed, 16, 96, 1);
            int even = x.year(seed, 0, 96, 3);
            Check.is("held " + held, held >= 0 && held < 8 ? 1 : 0, 1);
            Check.is("EVEN " + even, even >= 0 && even < 4 ? 1 : 0, 1);
        }
        int[][] wrong = {{-1, 1, 0}, {17, 1, 0}, {0, 0, 0}, {0, 97, 0}, {0, -1, 0}, {0, 1, -1}, {0, 1, 4}};
        int before = x.status(1);
        for (int[] a : wrong) {
            Check.wrong("year", () -> x.year(1, a[0], a[1], a[2]));
        }
        Check.is("status(1)", x.status(1), before + wrong.length);
        Check.is("status(0)", x.status(0), 0);
    }

    /** The DRAWS are worked out once more, on numbers that do not wrap by themselves. */
    @Says(promise = 38, value = "(it wraps); its bits 16 to 30, what is left of them.")
    private static void drawsWrap() {
        int[] seeds = {0, 1, -1, 1 << 30, Integer.MAX_VALUE, Integer.MIN_VALUE, 123456789, -987654321};
        int told = 0;
        for (int seed : seeds) {
            for (int more = 0; more < 30; more++) {
                told += slipsOnce(seed + more) ? 1 : 0;
            }
        }
        Check.is("many a SEED has drawn three FINDERS and three THINGS", told > 30 ? 1 : 0, 1);
    }

    /** Whether three FINDERS and three THINGS are drawn: then those who are drawn with their own THING let it slip. */
    private static boolean slipsOnce(int seed) {
        long next = seed;
        int[] draws = new int[12];
        for (int i = 0; i < 12; i++) {
            next = (next * 1103515245L + 12345L) & 0xffffffffL;
            draws[i] = (int) (next / 65536 % 32768) % 6;
        }
        int held = 63;
        for (int time = 0; time < 12; time += 4) {
            held &= draws[time] == draws[time + 2] ? ~(1 << draws[time]) : 63;
        }
        if (Integer.bitCount(1 << draws[0] | 1 << draws[4] | 1 << draws[8]) < 3
                || Integer.bitCount(1 << draws[2] | 1 << draws[6] | 1 << draws[10]) < 3) {
            return false;
        }
        EvenFinders x = Check.in("places 2;road 0 1 1;" + "finder 0;".repeat(6) + "own 0 1;own 1 1;own 2 1;own 3 1;own 4 1;own 5 1;");
        Check.is("held by " + seed, x.year(seed, 16, 1, 1), held);
        Check.is("EVEN by " + seed, x.year(seed, 16, 1, 3), held);
        Check.is("finds by " + seed, x.year(seed, 16, 1, 0), 0);
        Check.is("held without slips by " + seed, x.year(seed, 0, 1, 1), 63);
        return true;
    }

    @Says(promise = 39, value = {"Of so many SEEDS (1 to 20; seed, seed and 1, ..): 0 the fewest finds in it, 1 the most, 2 by how many a FINDER is EVEN then.",
        "(IllegalArgumentException: no such FINDER, also for 0, 1.)"})
    private static void spansOfSeeds() {
        String town = "places 3;road 0 1 2;road 1 2 3;road 2 0 4;finder 0;finder 1;thing 0 9;thing 1 4;thing 2 6;own 1 5;";
        for (int seed : new int[] {0, -3, Integer.MAX_VALUE - 4, Integer.MIN_VALUE}) {
            for (int many : new int[] {1, 2, 20}) {
                EvenFinders x = Check.in(town);
                int fewest = Integer.MAX_VALUE;
                int most = Integer.MIN_VALUE;
                int[] even = new int[2];
                for (int i = 0; i < many; i++) {
                    int finds = x.year(seed + i, 5, 7, 0);
                    fewest = Math.min(fewest, finds);
                    most = Math.max(most, finds);
                    even[0] += x.year(seed + i, 5, 7, 3) & 1;
                    even[1] += x.year(seed + i, 5, 7, 3) >> 1;
                }
                Check.is("fewest of " + many, x.span(seed, many, 5, 7, 0, 0), fewest);
                Check.is("most of " + many, x.span(seed, many, 5, 7, 1, 1), most);
                Check.is("EVEN 0 of " + many, x.span(seed, many, 5, 7, 2, 0), even[0]);
                Check.is("EVEN 1 of " + many, x.span(seed, many, 5, 7, 2, 1), even[1]);
            }
        }
        EvenFinders y = Check.in(town);
        Check.is("least", y.span(1, 1, 0, 1, 0, 0) >= 0 ? 1 : 0, 1);
        Check.is("most", y.span(1, 20, 16, 96, 0, 1) >= 0 ? 1 : 0, 1);
        int[][] wrong = {{0, 0, 1, 0, 0}, {21, 0, 1, 0, 0}, {-1, 0, 1, 0, 0}, {1, -1, 1, 0, 0}, {1, 17, 1, 0, 0}, {1, 0, 0, 0, 0},
            {1, 0, 97, 0, 0}, {1, 0, 1, -1, 0}, {1, 0, 1, 3, 0}, {1, 0, 1, 0, 2}, {1, 0, 1, 1, 2}, {1, 0, 1, 2, 2},
            {1, 0, 1, 0, -1}, {1, 0, 1, 1, -1}, {1, 0, 1, 2, -1}};
        for (int[] a : wrong) {
            Check.wrong("span", () -> y.span(1, a[0], a[1], a[2], a[3], a[4]));
        }
        Check.is("status(1)", y.status(1), wrong.length);
        Check.is("status(0)", y.status(0), 0);
        EvenFinders z = new EvenFinders();
        for (int what = 0; what < 3; what++) {
            int asked = what;
            Check.wrong("no FINDERS", () -> z.span(1, 1, 0, 1, asked, 0));
        }
        Check.is("status(1)", z.status(1), 3);
    }

    // ---- promises 40 and 41

    @Says(promise = 40, value = "An IMAGE of all that WORK changes, and of the WORKS that can be undone: how many there are;")
    private static void whatAnImageKeeps() {
        EvenFinders x = Check.in("places 2;road 0 1 3;finder 0;thing 0 5;own 0 4;thing 1 9;");
        Check.work(x, "walk 0 0;walk 0 0;");
        Check.work(x, "find 0 0;night;walk 0 0;");
        Check.is("image", x.image(), 1);
        Check.is("IMAGES", x.count(0), 1);
        Check.is("WORKS", x.count(2), 2);
        // Everything that WORK changes is changed behind it.
        Check.work(x, "lose 0 0;find 0 2;walk 0 0;night;night;");
        Check.work(x, "slip 0 2;");
        Check.work(x, "");
        Check.is("restore", x.restore(), 0);
        EvenFinders y = Check.in("places 2;road 0 1 3;finder 0;thing 0 5;own 0 4;thing 1 9;");
        Check.work(y, "walk 0 0;walk 0 0;");
        Check.work(y, "find 0 0;night;walk 0 0;");
        Check.same("as it was", Drain.of(x), Drain.of(y));
        // WORKS that were undone behind it come back, too.
        EvenFinders z = Check.in("places 1;");
        for (int i = 0; i < 16; i++) {
            Check.work(z, "night;");
        }
        z.image();
        for (int i = 0; i < 16; i++) {
            z.undo();
        }
        Check.work(z, "night;night;night;");
        Check.is("restore", z.restore(), 0);
        Check.is("WORKS", z.count(2), 16);
        Check.is("DAY", z.told(4), 16);
        for (int i = 15; i >= 0; i--) {
            Check.is("undo", z.undo(), i);
            Check.is("DAY", z.told(4), i);
        }
        // As many other WORKS are done in their place.
        for (int i = 0; i < 16; i++) {
            Check.work(z, "night;");
        }
        z.image();
        for (int i = 0; i < 16; i++) {
            z.undo();
        }
        for (int i = 0; i < 16; i++) {
            Check.work(z, "night;night;");
        }
        Check.is("DAY", z.told(4), 32);
        Check.is("restore", z.restore(), 0);
        for (int i = 15; i >= 0; i--) {
            Check.is("undo", z.undo(), i);
            Check.is("DAY", z.told(4), i);
        }
    }

    @Says(promise = 40, value = "-1: there are 3.")
    private static void threeImages() {
        EvenFinders x = new EvenFinders();
        for (int i = 1; i <= 3; i++) {
            Check.is("image", x.image(), i);
            Check.is("IMAGES", x.count(0), i);
            Check.work(x, "night;");
        }
        Check.is("a fourth", x.image(), -1);
        Check.is("a fifth", x.image(), -1);
        Check.is("IMAGES", x.count(0), 3);
        Check.is("DAY", x.told(4), 3);
        Check.is("status(0)", x.status(0), 0);
        Check.is("status(1)", x.status(1), 0);
        // The refused ones took no IMAGE's place.
        for (int i = 2; i >= 0; i--) {
            Check.is("restore", x.restore(), i);
            Check.is("DAY", x.told(4), i);
            Check.is("WORKS", x.count(2), i);
        }
        Check.is("image", x.image(), 1);
    }

    @Says(promise = 41, value = "All is as in the latest IMAGE, which is gone: how many are left;")
    private static void theLatestImage() {
        EvenFinders x = Check.in("places 1;finder 0;thing 0 5;");
        x.image();
        Check.work(x, "find 0 0;");
        x.image();
        Check.work(x, "night;lose 0 0;");
        Check.is("restore", x.restore(), 1);
        Check.is("OWES", x.finder(0, 1), 5);
        Check.is("holds", x.finder(0, 2), 1);
        Check.is("DAY", x.told(4), 0);
        Check.is("REFUSED", x.told(10), 0);
        Check.is("IMAGES", x.count(0), 1);
        Check.is("image", x.image(), 2);
        Check.is("restore", x.restore(), 1);
        Check.is("restore", x.restore(), 0);
        Check.is("OWES", x.finder(0, 1), 0);
        Check.is("holds", x.finder(0, 2), 0);
        // LAW, BOOK, TAPE and FAULT are not WORK's.
        x.image();
        Check.law(x, "9");
        Check.book(x, "0 1;");
        Check.town(x, "x");
        Check.feed(x, "x");
        Check.is("restore", x.restore(), 0);
        Check.is("LAW", x.duty(0, 0), 9);
        Check.is("lines", x.told(9), 1);
        Check.is("FAULT", x.fault(), 0);
        Check.is("the TAPE", x.count(1), 20);
    }

    @Says(promise = 41, value = "-1: there is none.")
    private static void noImage() {
        EvenFinders x = new EvenFinders();
        Check.is("restore", x.restore(), -1);
        Check.work(x, "night;");
        Check.is("restore", x.restore(), -1);
        Check.is("DAY", x.told(4), 1);
        Check.is("WORKS", x.count(2), 1);
        Check.is("IMAGES", x.count(0), 0);
        x.image();
        Check.is("restore", x.restore(), 0);
        Check.is("restore", x.restore(), -1);
        Check.is("status(0)", x.status(0), 0);
        Check.is("status(1)", x.status(1), 0);
        EvenFinders y = Drain.full();
        Check.is("restore", y.restore(), 1);
        Check.is("restore", y.restore(), 0);
        Check.is("restore", y.restore(), -1);
        Check.is("WORKS stay", y.count(2), 1);
    }

    // ---- promises 42 and 43

    @Says(promise = 42, value = {"How many calls were refused: 0 NoSuchElementException, 1 IllegalArgumentException; NONE for others.",
        "(No IMAGE keeps it.)"})
    private static void refusedCalls() {
        EvenFinders x = new EvenFinders();
        Check.is("status(0)", x.status(0), 0);
        Check.is("status(1)", x.status(1), 0);
        for (int what : new int[] {-1, 2, 3, Integer.MIN_VALUE, Integer.MAX_VALUE}) {
            Check.is("others", x.status(what), -1);
        }
        Check.is("others are not refused", x.status(1), 0);
        x.image();
        Check.unknown("place", () -> x.place(0, 99));
        Check.wrong("told", () -> x.told(12));
        Check.wrong("told", () -> x.told(-1));
        Check.is("status(0)", x.status(0), 1);
        Check.is("status(1)", x.status(1), 2);
        Check.is("restore", x.restore(), 0);
        Check.is("no IMAGE keeps it", x.status(0), 1);
        Check.is("no IMAGE keeps it", x.status(1), 2);
        Check.town(x, "places 1;");
        Check.is("nor does a TOWN", x.status(0), 1);
        Check.work(x, "night;");
        x.undo();
        Check.is("nor is it undone", x.status(1), 2);
        EvenFinders y = new EvenFinders();
        for (int i = 0; i < 250; i++) {
            Check.unknown("finder", () -> y.finder(0, 0));
            Check.wrong("told", () -> y.told(12));
        }
        Check.is("many", y.status(0), 250);
        Check.is("many", y.status(1), 250);
    }

    @Says(promise = 43, value = "0 IMAGES, 1 bytes of the TAPE, 2 WORKS that can be undone; NONE for others.")
    private static void counts() {
        EvenFinders x = new EvenFinders();
        for (int what = 0; what <= 2; what++) {
            Check.is("count " + what, x.count(what), 0);
        }
        for (int what : new int[] {-1, 3, 4, Integer.MIN_VALUE, Integer.MAX_VALUE}) {
            Check.is("others", x.count(what), -1);
        }
        Check.is("others are not refused", x.status(1), 0);
        for (int i = 0; i < 16; i++) {
            Check.work(x, "night;");
        }
        for (int i = 0; i < 3; i++) {
            x.image();
        }
        for (int i = 0; i < 30; i++) {
            x.feed(0, 0, 0, 0, 0);
        }
        Check.is("IMAGES", x.count(0), 3);
        Check.is("bytes", x.count(1), 600);
        Check.is("WORKS", x.count(2), 16);
    }
}
