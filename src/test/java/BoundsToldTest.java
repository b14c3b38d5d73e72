/** Promises 9 to 13, 16 and 17 at their bounds: what is told, whether one can find, nights ahead. */
public final class BoundsToldTest {
    private static final String FULLEST = "places 8;" + "road 0 7 9;".repeat(12) + "finder 0;".repeat(5) + "finder 7;"
            + "own 5 60;".repeat(5) + "thing 7 60;".repeat(5);

    public static void main(String[] args) {
        Bounds.run(BoundsToldTest.class);
    }

    private static void all(EvenFinders x, int... due) {
        for (int what = 0; what < due.length; what++) {
            Check.is("told " + what, x.told(what), due[what]);
        }
    }

    // ---- promise 9

    @Says(promise = 9, value = {"0 PLACES, 1 ROADS, 2 THINGS, 3 FINDERS, 4 the DAY, 5 THINGS that are held (bits),",
        "8 WORTH of all that lies about, 9 lines of the BOOK,", "11 how often one was SHAMED by now."})
    private static void leastAndMostThatIsTold() {
        all(new EvenFinders(), 0, 0, 0, 0, 0, 0, 0, 0, 0, 0, 0, 0);
        EvenFinders x = Check.in(FULLEST);
        Check.book(x, "0 0;1 0;2 0;3 0;4 0;5 0;6 0;7 0;");
        all(x, 8, 12, 10, 6, 0, 31, 63, 0, 300, 8, 0, 0);
        Check.law(x, "99");
        Check.work(x, "find 5 5;night;night;");
        all(x, 8, 12, 10, 6, 2, 31 + 32 - 3, 31, 32, 360, 8, 0, 2);
        Check.work(x, "again 30[night;];");
        all(x, 8, 12, 10, 6, 32, 0, 31, 32, 600, 8, 0, 32);
        EvenFinders y = Check.in("places 1;finder 0;" + "own 0 60;".repeat(10));
        all(y, 1, 0, 10, 1, 0, 1023, 1, 0, 0, 0, 0, 0);
        // SHAMED are counted over all FINDERS.
        EvenFinders z = Check.in("places 1;finder 0;finder 0;thing 0 1;thing 0 1;");
        Check.work(z, "find 0 0;night;find 1 1;night;night;");
        Check.is("SHAMED", z.told(11), 3 + 2);
    }

    @Says(promise = 9, value = {"6 FINDERS who are EVEN (bits), 7 FINDERS who OWE more than 0 (bits),", "EVEN is, who OWES 0."})
    private static void evenAndOwing() {
        EvenFinders x = Check.in("places 1;finder 0;finder 0;finder 0;own 0 1;thing 0 1;");
        Check.work(x, "slip 0 0;find 2 1;");
        Check.is("OWES -1", x.finder(0, 1), -1);
        Check.is("OWES 0", x.finder(1, 1), 0);
        Check.is("OWES 1", x.finder(2, 1), 1);
        Check.is("EVEN", x.told(6), 0b010);
        Check.is("OWE", x.told(7), 0b100);
        EvenFinders y = Check.in("places 1;" + "finder 0;".repeat(6) + "thing 0 1;".repeat(6));
        Check.work(y, "find 0 0;find 1 1;find 2 2;find 3 3;find 4 4;find 5 5;");
        Check.is("EVEN", y.told(6), 0);
        Check.is("OWE", y.told(7), 63);
        EvenFinders z = Check.in("places 2;road 0 1 9;" + "finder 0;".repeat(6));
        Check.work(z, "walk 0 0;walk 5 0;");
        Check.is("EVEN", z.told(6), 63);
        Check.is("OWE", z.told(7), 0);
    }

    @Says(promise = 9, value = "10 STEPS REFUSED by the latest WORK (0 ahead of any, behind undo(), restore()),")
    private static void refusedByTheLatestWork() {
        EvenFinders x = Check.in("places 1;finder 0;thing 0 1;own 0 2;");
        Check.is("ahead of any", x.told(10), 0);
        Check.work(x, "find 0 0;find 0 0;find 0 1;");
        Check.is("2", x.told(10), 2);
        x.image();
        Check.is("behind image()", x.told(10), 2);
        Check.work(x, "night;");
        Check.is("0", x.told(10), 0);
        Check.work(x, "again 30[again 30[find 0 0;];];");
        Check.is("200 begun, of which 8 agains", x.told(10), 192);
        Check.is("undo", x.undo(), 2);
        Check.is("behind undo()", x.told(10), 0);
        Check.work(x, "find 0 0;");
        Check.is("1", x.told(10), 1);
        Check.is("restore", x.restore(), 0);
        Check.is("behind restore()", x.told(10), 0);
        Check.work(x, "find 0 0;");
        Check.is("restore", x.restore(), -1);
        Check.is("nothing was restored", x.told(10), 1);
        Check.law(x, "3");
        Check.book(x, "0 1;");
        Check.town(x, "x");
        Check.is("other texts", x.told(10), 1);
        Check.town(x, "places 1;");
        Check.is("ahead of any in a new TOWN", x.told(10), 0);
    }

    // ---- promises 10 to 13

    @Says(promise = 10, value = "Of a PLACE: 0 THINGS that lie there (bits), 1 their WORTH together, 2 FINDERS there (bits), 3 ROADS at it (how many).")
    private static void ofPlaces() {
        EvenFinders x = Check.in(FULLEST);
        int[][] due = {{0, 0, 31, 12}, {0, 0, 0, 0}, {992, 300, 32, 12}};
        int[] places = {0, 1, 7};
        for (int i = 0; i < 3; i++) {
            for (int what = 0; what < 4; what++) {
                Check.is("place " + places[i] + " " + what, x.place(places[i], what), due[i][what]);
            }
        }
        EvenFinders y = Check.in("places 1;" + "thing 0 60;".repeat(10) + "finder 0;".repeat(6));
        Check.is("all THINGS", y.place(0, 0), 1023);
        Check.is("all WORTH", y.place(0, 1), 600);
        Check.is("all FINDERS", y.place(0, 2), 63);
        Check.is("no ROADS", y.place(0, 3), 0);
        EvenFinders z = Check.in("places 3;road 0 1 1;road 1 2 1;road 2 1 9;");
        Check.is("ROADS at an end A", z.place(0, 3), 1);
        Check.is("ROADS at both", z.place(1, 3), 3);
        Check.is("ROADS at an end B", z.place(2, 3), 2);
    }

    @Says(promise = 11, value = "Of a ROAD: 0 A, 1 B, 2 L.")
    private static void ofRoads() {
        EvenFinders x = Check.in("places 8;road 7 0 1;" + "road 1 2 3;".repeat(10) + "road 0 7 9;");
        int[][] due = {{7, 0, 1}, {0, 7, 9}};
        for (int what = 0; what < 3; what++) {
            Check.is("road 0 " + what, x.road(0, what), due[0][what]);
            Check.is("road 11 " + what, x.road(11, what), due[1][what]);
        }
    }

    @Says(promise = 12, value = "Of a THING: 0 WORTH, 1 the PLACE where it is (held or not), 2 who holds it (NONE).")
    private static void ofThings() {
        EvenFinders x = Check.in(FULLEST);
        Check.is("WORTH", x.thing(0, 0), 60);
        Check.is("held: where its FINDER is", x.thing(0, 1), 7);
        Check.is("who holds it", x.thing(0, 2), 5);
        Check.is("lies: where", x.thing(9, 1), 7);
        Check.is("nobody holds it", x.thing(9, 2), EvenFinders.NONE);
        Check.work(x, "walk 5 0;");
        Check.is("held: it comes along", x.thing(0, 1), 0);
        Check.is("lies: it stays", x.thing(9, 1), 7);
        Check.work(x, "slip 5 0;walk 5 0;");
        Check.is("let slip: where that was", x.thing(0, 1), 0);
        Check.is("nobody holds it", x.thing(0, 2), EvenFinders.NONE);
        EvenFinders y = Check.in("places 8;finder 1;finder 2;finder 3;finder 4;finder 5;finder 6;own 5 1;own 4 2;own 3 3;own 2 4;"
                + "own 1 5;own 0 6;thing 7 7;thing 0 8;own 5 9;own 4 10;");
        int[][] due = {{6, 5}, {5, 4}, {4, 3}, {3, 2}, {2, 1}, {1, 0}, {7, -1}, {0, -1}, {6, 5}, {5, 4}};
        for (int thing = 0; thing < 10; thing++) {
            Check.is("WORTH of " + thing, y.thing(thing, 0), thing + 1);
            Check.is("where " + thing + " is", y.thing(thing, 1), due[thing][0]);
            Check.is("who holds " + thing, y.thing(thing, 2), due[thing][1]);
        }
    }

    @Says(promise = 13, value = {"Of a FINDER: 0 the PLACE, 1 what it OWES, 2 THINGS it holds (bits), 3 their WORTH together,",
        "4 what it has walked this DAY, 5 how often it found, 6 how often it was SHAMED."})
    private static void ofFinders() {
        EvenFinders x = Check.in("places 2;road 0 1 8;finder 1;finder 0;" + "own 1 60;".repeat(10));
        int[][] due = {{1, 0, 0, 0, 0, 0, 0}, {0, 0, 1023, 600, 0, 0, 0}};
        for (int what = 0; what <= 6; what++) {
            Check.is("finder 0 " + what, x.finder(0, what), due[0][what]);
            Check.is("finder 1 " + what, x.finder(1, what), due[1][what]);
        }
        Check.law(x, "99");
        Check.work(x, "slip 1 0;slip 1 1;");
        Check.is("OWES least", x.finder(1, 1), -99);
        Check.work(x, "find 1 0;find 1 1;night;night;walk 1 0;walk 1 0;walk 1 0;");
        int[] then = {1, 99, 1020, 480, 24, 2, 2};
        for (int what = 0; what <= 6; what++) {
            Check.is("finder 1 then " + what, x.finder(1, what), then[what]);
        }
    }

    // ---- promises 16 and 17

    @Says(promise = 16, value = "Whether find could be done now.")
    private static void canFind() {
        EvenFinders x = Check.in("places 2;finder 0;finder 0;thing 0 1;thing 1 1;own 0 1;own 1 2;thing 0 4;thing 0 9;");
        can(x, 0, true, false, false, false, true, true);
        can(x, 1, true, false, false, false, true, true);
        Check.work(x, "slip 0 2;find 1 0;");
        Check.is("OWES", x.finder(0, 1), -1);
        can(x, 0, false, false, true, false, true, true);
        Check.is("OWES", x.finder(1, 1), 1);
        can(x, 1, false, false, false, false, false, false);
        Check.law(x, "1");
        Check.work(x, "find 0 4;");
        Check.is("OWES", x.finder(0, 1), 0);
        can(x, 0, false, false, true, false, false, true);
        Check.unknown("FINDER 2", () -> x.can(2, 0) ? 1 : 0);
        Check.unknown("FINDER -1", () -> x.can(-1, 0) ? 1 : 0);
        Check.unknown("THING 6", () -> x.can(0, 6) ? 1 : 0);
        Check.unknown("THING -1", () -> x.can(0, -1) ? 1 : 0);
        Check.is("status(0)", x.status(0), 4);
        Check.is("status(1)", x.status(1), 0);
    }

    private static void can(EvenFinders x, int finder, boolean... due) {
        for (int thing = 0; thing < due.length; thing++) {
            Check.is("can " + finder + " " + thing, x.can(finder, thing) ? 1 : 0, due[thing] ? 1 : 0);
        }
    }

    @Says(promise = 17, value = {"In n DAYS (0 to 99), nothing else being done: 0 THINGS that are held (bits),",
        "1 how often one was SHAMED by then, 2 WORTH of all that lies about."})
    private static void nightsAhead() {
        EvenFinders x = Check.in("places 1;finder 0;finder 0;finder 0;own 0 3;own 0 2;own 1 9;thing 0 5;thing 0 7;own 2 8;");
        Check.work(x, "find 0 3;night;find 1 4;");
        // FINDER 0 owes 5 and holds 3 and 5, FINDER 1 owes 7 and holds 9 and 7, FINDER 2 is EVEN and holds 8.
        int[][] due = {{0b111101, 1, 2}, {0b101100, 3, 2 + 3 + 7}, {0b100000, 5, 2 + 3 + 7 + 5 + 9}, {0b100000, 7, 26}};
        for (int n = 0; n < 4; n++) {
            for (int what = 0; what < 3; what++) {
                Check.is("ahead " + n + " " + what, x.ahead(n, what), due[n][what]);
            }
        }
        Check.is("98", x.ahead(98, 1), 1 + 2 * 98);
        Check.is("99", x.ahead(99, 1), 1 + 2 * 99);
        Check.is("99", x.ahead(99, 0), 0b100000);
        Check.is("99", x.ahead(99, 2), 26);
        Check.wrong("100", () -> x.ahead(100, 0));
        Check.wrong("-1", () -> x.ahead(-1, 0));
        Check.wrong("what 3", () -> x.ahead(0, 3));
        Check.wrong("what -1", () -> x.ahead(0, -1));
        Check.is("status(1)", x.status(1), 4);
        EvenFinders y = new EvenFinders();
        for (int what = 0; what < 3; what++) {
            Check.is("nobody", y.ahead(99, what), 0);
        }
    }

    @Says(promise = 17, value = "Asked, nothing stays changed; DAYS go by as by night (beyond 400, too).")
    private static void nightsBeyondTheLast() {
        EvenFinders x = Check.in("places 1;finder 0;thing 0 5;own 0 6;own 0 7;");
        String nights = "again 30[night;night;night;night;night;night;];again 18[night;];";
        Check.work(x, nights);
        Check.work(x, nights);
        Check.work(x, "again 3[night;];find 0 0;");
        Check.is("DAY", x.told(4), 399);
        Check.is("one night is left", x.ahead(1, 1), 1);
        Check.is("two", x.ahead(2, 1), 2);
        Check.is("two", x.ahead(2, 0), 0b100);
        Check.is("99", x.ahead(99, 1), 99);
        Check.is("99", x.ahead(99, 2), 18);
        Check.work(x, "night;night;");
        Check.is("DAY", x.told(4), 400);
        Check.is("SHAMED", x.told(11), 1);
        Check.is("99", x.ahead(99, 1), 100);
        Check.is("DAY stays", x.told(4), 400);
        Check.is("SHAMED stays", x.told(11), 1);
        Check.is("held stays", x.told(5), 0b110);
        Check.is("in a YEAR, too", x.year(1, 0, 96, 2), 96);
        Check.is("in a YEAR, too", x.year(1, 0, 96, 1), 0);
        Check.is("in a span, too", x.span(1, 2, 0, 96, 2, 0), 0);
        Check.is("DAY stays", x.told(4), 400);
    }
}
