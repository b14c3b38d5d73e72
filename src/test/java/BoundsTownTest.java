/** Promises 1 to 3 and 7 at their bounds: a new object, the TAPE, a TOWN and its FAULTS. */
public final class BoundsTownTest {
    public static void main(String[] args) {
        Bounds.run(BoundsTownTest.class);
    }

    private static EvenFinders stands(String text, int things) {
        return Texts.stands("town", new EvenFinders(), text, things);
    }

    private static void fails(String text, int fault, int place) {
        Texts.fails("town", text, fault, place);
    }

    private static String places(int n) {
        return n == 0 ? "" : "places " + n + ";";
    }

    // ---- promise 1

    @Says(promise = 1, value = "A TOWN without CLAUSES.")
    private static void aNewObjectIsATownOfNothing() {
        EvenFinders x = new EvenFinders();
        for (int what = 0; what <= 11; what++) {
            Check.is("told " + what, x.told(what), 0);
        }
        for (int what = 0; what <= 2; what++) {
            Check.is("count " + what, x.count(what), 0);
        }
        Check.is("fault", x.fault(), EvenFinders.NONE);
        Check.is("status(0)", x.status(0), 0);
        Check.is("status(1)", x.status(1), 0);
        Check.is("NONE", EvenFinders.NONE, -1);
        Check.unknown("place 0", () -> x.place(0, 0));
        Check.unknown("road 0", () -> x.road(0, 0));
        Check.unknown("thing 0", () -> x.thing(0, 0));
        Check.unknown("finder 0", () -> x.finder(0, 0));
        Check.same("a new object", Drain.of(new EvenFinders()), Drain.of(stands("", 0)));
    }

    // ---- promise 2

    @Says(promise = 2, value = "Twenty bytes come on the TAPE, of each number the highest first: how many there are")
    private static void twentyBytesInOrder() {
        for (int bad = 0; bad < 20; bad++) {
            int[] a = new int[5];
            for (int i = 0; i < 20; i++) {
                a[i / 4] = a[i / 4] << 8 | (i == bad ? 255 - bad : ' ');
            }
            EvenFinders x = new EvenFinders();
            Check.is("feed", x.feed(a[0], a[1], a[2], a[3], a[4]), 20);
            Check.is("the byte that is no blank", x.town(20), -9);
            Check.is("its place", x.fault(), bad);
        }
        EvenFinders y = new EvenFinders();
        for (int i = 1; i <= 30; i++) {
            Check.is("feed " + i, y.feed(i, -i, 0, Integer.MIN_VALUE, Integer.MAX_VALUE), 20 * i);
            Check.is("count(1)", y.count(1), 20 * i);
        }
    }

    @Says(promise = 2, value = "NONE, doing nothing, if there would be more than 600.")
    private static void theFullTape() {
        EvenFinders x = new EvenFinders();
        String text = Texts.padded("places 3;", 580);
        Check.feed(x, text);
        Check.is("580", x.count(1), 580);
        Check.is("600", x.feed(0x20202020, 0x20202020, 0x20202020, 0x20202020, 0x20202078), 600);
        Check.is("620", x.feed(-1, -1, -1, -1, -1), -1);
        Check.is("620 once more", x.feed(0, 0, 0, 0, 0), -1);
        Check.is("count(1)", x.count(1), 600);
        Check.is("status(0)", x.status(0), 0);
        Check.is("status(1)", x.status(1), 0);
        Check.is("the last byte is the 600th", x.town(600), -9);
        Check.is("its place", x.fault(), 599);
        Check.is("an empty TAPE again", x.feed(0, 0, 0, 0, 0), 20);
        EvenFinders y = new EvenFinders();
        Check.feed(y, Texts.padded("places 3;", 600));
        Check.is("620", y.feed(-1, -1, -1, -1, -1), -1);
        Check.is("the bytes stay", y.town(600), 0);
        Check.is("PLACES", y.told(0), 3);
    }

    // ---- promise 3

    @Says(promise = 3, value = "The first n bytes of the TAPE (empty then) are the TOWN")
    private static void theFirstBytesOnly() {
        EvenFinders x = new EvenFinders();
        Check.feed(x, "places 1;places 2;");
        Check.is("9 of 20 bytes", x.town(9), 0);
        Check.is("PLACES", x.told(0), 1);
        Check.is("the TAPE", x.count(1), 0);
        Check.feed(x, "places 1;places 2;");
        Check.is("18 of 20 bytes", x.town(18), 0);
        Check.is("PLACES", x.told(0), 3);
        Check.feed(x, "places 1;places 2;");
        Check.is("the 19th is a zero", x.town(19), -9);
        Check.is("its place", x.fault(), 18);
        Check.is("the TAPE behind a FAULT", x.count(1), 0);
        Check.feed(x, "places 1;places 2;");
        Check.is("0 of 20 bytes", x.town(0), 0);
        Check.is("PLACES", x.told(0), 0);
        Check.is("the TAPE", x.count(1), 0);
        Check.is("0 of no bytes", x.town(0), 0);
    }

    @Says(promise = 3, value = "(no LAW, BOOK, IMAGES, nothing to undo): how many THINGS")
    private static void aTownMakesAllNew() {
        EvenFinders x = Drain.full();
        String town = "places 3;finder 2;finder 1;thing 0 7;own 1 4;road 2 1 9;";
        Check.is("THINGS", Texts.read(x, "town", town), 2);
        Check.is("fault", x.fault(), -1);
        Check.is("IMAGES", x.count(0), 0);
        Check.is("WORKS", x.count(2), 0);
        Check.is("lines of the BOOK", x.told(9), 0);
        Check.is("the LAW", x.would(41, 1, 2, 3, 4, 5, 6, 1), 41);
        Check.is("REFUSED", x.told(10), 0);
        Check.is("status(0)", x.status(0), Drain.UNKNOWN_CALLS);
        Check.is("status(1)", x.status(1), Drain.WRONG_CALLS);
        Check.same("as in a new object", Drain.of(x), Drain.of(stands(town, 2)));
        EvenFinders z = new EvenFinders();
        Check.law(z, "7");
        Check.is("a TOWN", Texts.read(z, "town", "places 1;finder 0;thing 0 3;"), 1);
        Check.is("no LAW", z.duty(0, 0), 3);
        EvenFinders y = Drain.full();
        Check.is("a TOWN of nothing", Texts.read(y, "town", ""), 0);
        Check.same("as in a new object", Drain.of(y), Drain.of(new EvenFinders()));
    }

    @Says(promise = 3, value = "or the FAULT less 10 (all stays).")
    private static void aFaultyTownLeavesAll() {
        fails("places 1;x", 1, 9);
        fails("places 1;places 8;", 2, 16);
        fails("places 1;" + "finder 0;".repeat(7), 3, 63);
        // What is behind the FAULT is not looked at, and what is ahead of it does not count.
        fails("places 8;road 0 7 9;thing 7 60;finder 7;own 0 60;night;", 1, 49);
    }

    @Says(promise = 3, value = "IllegalArgumentException: n is not 0 to the TAPE's bytes (it stays).")
    private static void theLengthOfATown() {
        EvenFinders x = new EvenFinders();
        Check.wrong("1 of 0", () -> x.town(1));
        Check.wrong("-1 of 0", () -> x.town(-1));
        Check.feed(x, Texts.padded("places 2;", 600));
        Check.wrong("601 of 600", () -> x.town(601));
        Check.wrong("-1 of 600", () -> x.town(-1));
        Check.wrong("least of 600", () -> x.town(Integer.MIN_VALUE));
        Check.wrong("most of 600", () -> x.town(Integer.MAX_VALUE));
        Check.is("the TAPE", x.count(1), 600);
        Check.is("status(0)", x.status(0), 0);
        Check.is("status(1)", x.status(1), 6);
        Check.is("PLACES", x.told(0), 0);
        Check.is("600 of 600", x.town(600), 0);
        Check.is("PLACES", x.told(0), 2);
        Check.feed(x, "places 3;");
        Check.wrong("21 of 20", () -> x.town(21));
        Check.is("the TAPE", x.count(1), 20);
        Check.is("PLACES", x.told(0), 2);
        Check.is("9 of 20", x.town(9), 0);
        Check.is("PLACES", x.told(0), 3);
    }

    // ---- what a TOWN is

    @Says(promise = 3, value = {"A TOWN is a text of up to 600 bytes: { CLAUSE \";\" }, at most 60.", "CLAUSE:"})
    private static void theFullestTown() {
        // 8 + 12 + 10 + 6 CLAUSES are the most there can be: a 61st one would have another FAULT long before.
        String full = "places 1;".repeat(8) + "road 0 7 9;".repeat(12) + "thing 7 60;".repeat(9) + "finder 7;".repeat(6)
                + "own 5 1;";
        EvenFinders x = stands(full, 10);
        Check.is("PLACES", x.told(0), 8);
        Check.is("ROADS", x.told(1), 12);
        Check.is("FINDERS", x.told(3), 6);
        stands(Texts.padded(full, 600), 10);
        stands(" ".repeat(600 - full.length()) + full, 10);
        int n = full.length();
        fails(full + "places 1;", 2, n + 7);
        fails(full + "road 0 1 1;", 3, n);
        fails(full + "thing 0 1;", 3, n);
        fails(full + "own 0 1;", 3, n);
        fails(full + "finder 0;", 3, n);
        fails(full + ";", 1, n);
        fails(Texts.padded(full, 599) + ";", 1, 599);
        stands("", 0);
        stands(" ", 0);
        stands(" ".repeat(600), 0);
    }

    @Says(promise = 3, value = "\"places\" N (N more PLACES, 1 to 8, numbered from 0 on, 8 in all at most)")
    private static void numbersOfPlaces() {
        for (int n = 1; n <= 8; n++) {
            EvenFinders x = stands(places(n) + "thing " + (n - 1) + " 5;", 1);
            Check.is("PLACES", x.told(0), n);
            Check.is("the last one", x.place(n - 1, 1), 5);
            int beyond = n;
            Check.unknown("the first beyond", () -> x.place(beyond, 1));
            Check.is("more", stands(places(8 - n) + places(n), 0).told(0), 8);
            fails(places(n) + places(9 - n), 2, places(n).length() + 7);
        }
        fails("places 0;", 2, 7);
        fails("places 9;", 2, 7);
        fails("places 8;places 0;", 2, 16);
        fails("places 8;places 1;", 2, 16);
    }

    @Says(promise = 3, value = "\"road\" A B L (ROADS likewise, 12 at most: between PLACES A and B, both told ahead, not one,")
    private static void endsOfRoads() {
        EvenFinders x = stands("places 3;road 0 2 1;road 2 0 2;road 1 2 3;", 0);
        int[][] due = {{0, 2, 1}, {2, 0, 2}, {1, 2, 3}};
        for (int road = 0; road < 3; road++) {
            for (int what = 0; what < 3; what++) {
                Check.is("road " + road + " " + what, x.road(road, what), due[road][what]);
            }
        }
        fails("road 0 1 1;places 2;", 2, 5);
        fails("places 2;road 2 0 1;places 1;", 2, 14);
        fails("places 2;road 0 2 1;places 1;", 2, 16);
        fails("places 1;road 0 1 1;", 2, 16);
        fails("places 2;road 0 0 1;", 2, 16);
        fails("places 8;road 7 7 1;", 2, 16);
        fails("places 8;road 8 7 1;", 2, 14);
        fails("places 8;road 7 8 1;", 2, 16);
        EvenFinders y = stands("places 2;" + "road 0 1 1;".repeat(11) + "road 1 0 9;", 0);
        Check.is("ROADS", y.told(1), 12);
        Check.is("the 12th", y.road(11, 2), 9);
        Check.unknown("the 13th", () -> y.road(12, 2));
        fails("places 2;" + "road 0 1 1;".repeat(13), 3, 9 + 12 * 11);
    }

    @Says(promise = 3, value = "LENGTH L, 1 to 9; two may be between two PLACES)")
    private static void lengthsOfRoads() {
        EvenFinders x = stands("places 2;road 0 1 9;road 0 1 1;road 1 0 9;", 0);
        Check.is("9", x.road(0, 2), 9);
        Check.is("1", x.road(1, 2), 1);
        Check.is("three are between two", x.place(0, 3), 3);
        Check.is("the shortest counts", x.far(0, 1), 1);
        fails("places 2;road 0 1 0;", 2, 18);
        fails("places 2;road 0 1 10;", 2, 18);
    }

    @Says(promise = 3, value = "\"thing\" P W (THINGS likewise, 10: lies at PLACE P, told ahead, WORTH W, 1 to 60)")
    private static void thingsOfATown() {
        EvenFinders x = stands("places 2;thing 1 1;thing 0 60;", 2);
        Check.is("PLACE", x.thing(0, 1), 1);
        Check.is("WORTH 1", x.thing(0, 0), 1);
        Check.is("WORTH 60", x.thing(1, 0), 60);
        Check.is("held by nobody", x.thing(1, 2), -1);
        fails("thing 0 1;places 1;", 2, 6);
        fails("places 1;thing 1 1;places 1;", 2, 15);
        fails("places 1;thing 0 0;", 2, 17);
        fails("places 1;thing 0 61;", 2, 17);
        EvenFinders y = stands("places 1;" + "thing 0 1;".repeat(9) + "thing 0 60;", 10);
        Check.is("the 10th", y.thing(9, 0), 60);
        Check.is("all bits", y.place(0, 0), 1023);
        Check.unknown("the 11th", () -> y.thing(10, 0));
        fails("places 1;" + "thing 0 1;".repeat(11), 3, 109);
    }

    @Says(promise = 3, value = "\"finder\" P (FINDERS likewise, 6: is at PLACE P, told ahead)")
    private static void findersOfATown() {
        EvenFinders x = stands("places 8;" + "finder 0;".repeat(5) + "finder 7;", 0);
        Check.is("FINDERS", x.told(3), 6);
        Check.is("the 6th", x.finder(5, 0), 7);
        Check.is("the others", x.place(0, 2), 31);
        Check.unknown("the 7th", () -> x.finder(6, 0));
        fails("finder 0;places 1;", 2, 7);
        fails("places 1;finder 1;places 1;", 2, 16);
        fails("places 8;finder 8;", 2, 16);
        fails("places 8;" + "finder 0;".repeat(7), 3, 63);
    }

    @Says(promise = 3, value = "or \"own\" A W (a THING, too, of the same numbers: FINDER A, told ahead, holds it, WORTH W, 1 to 60).")
    private static void thingsThatAreHeld() {
        EvenFinders x = stands("places 2;finder 1;finder 0;own 1 60;thing 1 5;own 0 1;", 3);
        Check.is("who holds 0", x.thing(0, 2), 1);
        Check.is("where", x.thing(0, 1), 0);
        Check.is("WORTH 60", x.thing(0, 0), 60);
        Check.is("1 lies", x.thing(1, 2), -1);
        Check.is("who holds 2", x.thing(2, 2), 0);
        Check.is("where", x.thing(2, 1), 1);
        Check.is("WORTH 1", x.thing(2, 0), 1);
        Check.is("held ones lie nowhere", x.place(1, 0), 2);
        fails("places 1;own 0 1;finder 0;", 2, 13);
        fails("places 1;finder 0;own 1 1;finder 0;", 2, 22);
        fails("places 1;" + "finder 0;".repeat(6) + "own 6 1;", 2, 67);
        fails("places 1;finder 0;own 0 0;", 2, 24);
        fails("places 1;finder 0;own 0 61;", 2, 24);
        stands("places 1;finder 0;" + "own 0 1;".repeat(10), 10);
        stands("places 1;finder 0;" + "own 0 1;".repeat(5) + "thing 0 1;".repeat(5), 10);
        fails("places 1;finder 0;" + "own 0 1;".repeat(11), 3, 98);
        fails("places 1;finder 0;" + "own 0 1;".repeat(10) + "thing 0 1;", 3, 98);
        fails("places 1;finder 0;" + "thing 0 1;".repeat(10) + "own 0 1;", 3, 118);
    }

    // ---- words, numbers, blanks

    @Says(promise = 3, value = "Numbers: digits, as many as stand there;")
    private static void numbersInATown() {
        Check.is("zeros ahead", stands("places 008;", 0).told(0), 8);
        Check.is("many zeros ahead", stands("places " + "0".repeat(590) + "8;", 0).told(0), 8);
        fails("places 000;", 2, 7);
        // These would be 1 to 8, did they wrap at 8, 16, 32 or 64 bits.
        fails("places 257;", 2, 7);
        fails("places 65537;", 2, 7);
        fails("places 4294967297;", 2, 7);
        fails("places 18446744073709551617;", 2, 7);
        fails("places " + "9".repeat(592) + ";", 2, 7);
        fails("places 1 1;", 1, 9);
        fails("places 1x;", 1, 8);
        fails("places -1;", 1, 7);
        fails("places +1;", 1, 7);
        fails("places 1.0;", 1, 8);
        fails("places /;", 1, 7);
        fails("places :;", 1, 7);
        fails("places 2;road 01 1;", 2, 17);
    }

    @Says(promise = 3, value = "WORDS: small letters, as many as stand there;")
    private static void wordsInATown() {
        stands("places1;", 0);
        stands("places2;road0 1 1;thing0 1;finder0;own0 1;", 2);
        fails("placesplaces 1;", 1, 0);
        fails("placesx 1;", 1, 0);
        fails("place 1;", 1, 0);
        fails("place s 1;", 1, 0);
        fails("pplaces 1;", 1, 0);
        fails("Places 1;", 1, 0);
        fails("placeS 1;", 1, 0);
        fails("placesa 1;", 1, 0);
        fails("placesz 1;", 1, 0);
        fails("aplaces 1;", 1, 0);
        fails("zplaces 1;", 1, 0);
        fails("places{1;", 1, 6);
        fails("places`1;", 1, 6);
        fails("night;", 1, 0);
        fails("road;", 1, 4);
        fails("a", 1, 0);
    }

    @Says(promise = 3, value = "blanks (32) may stand ahead of all these, and at the end.")
    private static void blanksInATown() {
        EvenFinders x = stands("  places   2  ;  road  0   1  9  ;  finder  1 ; thing  1  5 ;  own   0   6  ;   ", 2);
        Check.is("PLACES", x.told(0), 2);
        Check.is("ROAD", x.road(0, 2), 9);
        for (int other : new int[] {0, 9, 10, 11, 12, 13, 31, 33, 160, 255}) {
            fails("places 1;" + (char) other, 1, 9);
            fails("places" + (char) other + "1;", 1, 6);
        }
    }

    // ---- FAULTS, and promise 7

    @Says(promise = 7, value = {"FAULTS, the first from the left, at its first byte:", "The place of the FAULT of the latest text;"})
    private static void theFirstFaultCounts() {
        fails("places 9;xyz", 2, 7);
        fails("xyz;places 9;", 1, 0);
        fails("places 1;" + "finder 0;".repeat(6) + "finder 9;", 3, 63);
        fails("places 2;road 2 2 0;", 2, 14);
        fails("places 2;road 1 1 0;", 2, 16);
        fails("places   99;", 2, 9);
        fails("   plages 1;", 1, 3);
        EvenFinders x = new EvenFinders();
        Texts.read(x, "town", "places 9;");
        Check.is("a FAULT", x.fault(), 7);
        Check.is("asked once more", x.fault(), 7);
        Texts.read(x, "law", "1+x");
        Check.is("that of a LAW", x.fault(), 2);
        Texts.read(x, "work", "night;x");
        Check.is("that of WORK", x.fault(), 6);
        Texts.read(x, "book", "0 1;");
        Check.is("that of a BOOK", x.fault(), 0);
    }

    @Says(promise = 7, value = "NONE without.")
    private static void noFault() {
        EvenFinders x = new EvenFinders();
        Check.is("no text", x.fault(), -1);
        for (String kind : new String[] {"town", "law", "work", "book"}) {
            Texts.read(x, "law", "1+");
            Check.is("a FAULT", x.fault(), 2);
            Texts.stands(kind, x, kind.equals("law") ? "1" : "", kind.equals("law") ? 1 : 0);
        }
        Texts.read(x, "law", "1+");
        // No text is read by a refused call, nor by others.
        Check.wrong("refused", () -> x.town(1));
        Check.wrong("refused", () -> x.law(1));
        Check.wrong("refused", () -> x.work(1));
        Check.wrong("refused", () -> x.book(1));
        x.undo();
        x.image();
        x.restore();
        x.feed(0, 0, 0, 0, 0);
        Check.is("that FAULT still", x.fault(), 2);
    }

    @Says(promise = 7, value = "1 what can't stand there (at the length, if the text ends too early);")
    private static void whatCannotStandThere() {
        String whole = "places 2;road 0 1 9;";
        for (int n = 1; n < whole.length(); n++) {
            if (n == 9) {
                continue;
            }
            // A word that is cut off is another word; all else ends too early.
            boolean word = n < 6 || n > 9 && n < 13;
            fails(whole.substring(0, n), 1, word ? (n < 6 ? 0 : 9) : n);
            fails(whole.substring(0, n) + "  ", 1, word ? (n < 6 ? 0 : 9) : n + 2);
        }
        fails("places", 1, 6);
        fails("places   ", 1, 9);
        fails("places 1", 1, 8);
        fails("places 1   ", 1, 11);
        fails("places;", 1, 6);
        fails("places ;", 1, 7);
        fails("places x;", 1, 7);
        fails("places 1,", 1, 8);
        fails("places 1;;", 1, 9);
        fails(";", 1, 0);
        fails("5;", 1, 0);
        fails("[", 1, 0);
        // The bytes behind the n that are read do not count.
        EvenFinders x = new EvenFinders();
        Check.feed(x, "places 1;");
        Check.is("cut off", x.town(8), -9);
        Check.is("at the length", x.fault(), 8);
    }

    @Says(promise = 7, value = "2 a number that is none such (N of places by which there would be more than 8; B of a road as A;")
    private static void numbersThatAreNoneSuch() {
        fails("places 7;places 2;", 2, 16);
        stands("places 7;places 1;", 0);
        fails("places 2;road 1 1 1;", 2, 16);
        fails("places 2;road 1 01 1;", 2, 16);
        fails("places 2;road 1 2 1;", 2, 16);
        fails("places 2;thing 2 1;", 2, 15);
        fails("places 2;finder 2;", 2, 16);
        fails("places 2;finder 0;own 1 1;", 2, 22);
    }

    @Says(promise = 7, value = "3 a CLAUSE, ROAD, THING (own, too) or FINDER too many (at its word),")
    private static void tooMany() {
        String roads = "places 2;" + "road 0 1 1;".repeat(12);
        fails(roads + "   road", 3, roads.length() + 3);
        fails(roads + "road 9 9 99", 3, roads.length());
        String things = "places 1;" + "thing 0 1;".repeat(10);
        fails(things + "  thing x", 3, things.length() + 2);
        fails(things + "own", 3, things.length());
        String finders = "places 1;" + "finder 0;".repeat(6);
        fails(finders + " finder", 3, finders.length() + 1);
        fails(finders + "finder 1;", 3, finders.length());
    }

    @Says(promise = 7, value = "of one the least.")
    private static void ofOneTheLeast() {
        // What can't stand there is that, though it would be one too many, or no such number, too.
        String roads = "places 2;" + "road 0 1 1;".repeat(12);
        fails(roads + "roads 0 1 1;", 1, roads.length());
        fails(roads.substring(0, roads.length() - 1) + "road 0 1 1;", 1, roads.length() - 1);
        fails("places 1 9;", 1, 9);
        fails("places 2;road 0 1 1 99;", 1, 20);
        fails("9", 1, 0);
    }
}
