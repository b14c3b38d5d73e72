/** Promises 1 to 7 and 43: the TAPE, the four texts, their FAULTS. */
public final class TextsTest {
    private static final String LITTLE = "places 3;road 0 1 4;finder 0;finder 1;thing 0 5;own 1 6;";

    public static void main(String[] args) {
        newObject();
        feeding();
        tapeLengths();
        townsThatStand();
        townFaults();
        townFaultsOfMany();
        townReplaces();
        lawFaults();
        workFaults();
        bookFaults();
        longTexts();
        Check.end("TextsTest");
    }

    private static void newObject() {
        EvenFinders x = new EvenFinders();
        for (int what = 0; what <= 11; what++) {
            Check.is("new told " + what, x.told(what), 0);
        }
        Check.is("new fault", x.fault(), -1);
        Check.is("new undo", x.undo(), -1);
        Check.is("new restore", x.restore(), -1);
        Check.is("new status 0", x.status(0), 0);
        Check.is("new status 1", x.status(1), 0);
        Check.is("new count 0", x.count(0), 0);
        Check.is("new count 1", x.count(1), 0);
        Check.is("new count 2", x.count(2), 0);
        Check.is("NONE", EvenFinders.NONE, -1);
        Check.is("new law", x.would(33, 0, 1, 2, 3, 4, 5, 0), 33);
    }

    private static void feeding() {
        EvenFinders x = new EvenFinders();
        for (int i = 1; i <= 30; i++) {
            Check.is("feed " + i, x.feed(i, i, i, i, i), 20 * i);
        }
        Check.is("feed 31", x.feed(0, 0, 0, 0, 0), -1);
        Check.is("count of full tape", x.count(1), 600);
        Check.is("a full tape is no town", x.town(600), -9);
        Check.is("its fault", x.fault(), 0);
        Check.is("tape is empty then", x.count(1), 0);
        // Highest byte first: 'n' 'i' 'g' 'h', 't' ';' and the other bytes behind.
        x.feed('n' << 24 | 'i' << 16 | 'g' << 8 | 'h', 't' << 24 | ';' << 16 | 200 << 8 | 255, -1, 0, 0);
        Check.is("bytes by number", x.work(6), 1);
        x.feed(0xff202020, 0, 0, 0, 0);
        Check.is("byte 255 stands nowhere", x.law(1), -9);
    }

    private static void tapeLengths() {
        EvenFinders x = new EvenFinders();
        Check.wrong("town(1) of nothing", () -> x.town(1));
        Check.wrong("law(1) of nothing", () -> x.law(1));
        Check.wrong("work(-1)", () -> x.work(-1));
        Check.wrong("book(-1)", () -> x.book(-1));
        Check.feed(x, Check.times(" ", 160));
        Check.wrong("town(161)", () -> x.town(161));
        Check.wrong("law(151)", () -> x.law(151));
        Check.wrong("work(151)", () -> x.work(151));
        Check.wrong("book(61)", () -> x.book(61));
        Check.wrong("town(min)", () -> x.town(Integer.MIN_VALUE));
        Check.wrong("town(max)", () -> x.town(Integer.MAX_VALUE));
        Check.is("tape stays", x.count(1), 160);
        Check.is("no text was read", x.fault(), -1);
        Check.is("status(1)", x.status(1), 10);
        Check.is("status(0)", x.status(0), 0);
        Check.is("book(60) of blanks", x.book(60), 0);
        Check.is("tape is empty then", x.count(1), 0);
        Check.feed(x, Check.times(" ", 160));
        Check.is("work(150) of blanks", x.work(150), 0);
        Check.feed(x, Check.times(" ", 160));
        Check.is("law(150) of blanks", x.law(150), -9);
        Check.is("it ends too early", x.fault(), 150);
        Check.feed(x, Check.times(" ", 600));
        Check.is("town(600) of blanks", x.town(600), 0);
        Check.is("no fault", x.fault(), -1);
    }

    private static void townsThatStand() {
        stands("", 0);
        stands("   ", 0);
        stands("places 8;", 0);
        stands("places 3;places 5;", 0);
        stands("places0008;", 0);
        stands("  places  2 ;road0 1 9 ; road 1 0 1; thing 1 60;finder 0;own0 1 ; ", 2);
        stands("places 2;" + Check.times("road 0 1 1;", 12), 0);
        stands("places 1;" + Check.times("thing 0 1;", 10), 10);
        stands("places 1;" + Check.times("finder 0;", 6) + "own 5 60;", 1);
        stands(Check.times("places 1;", 8) + Check.times("road 0 7 9;", 12) + Check.times("thing 7 1;", 10)
                + Check.times("finder 7;", 6), 10);
    }

    private static void stands(String text, int things) {
        EvenFinders x = new EvenFinders();
        Check.is("town " + text, Check.town(x, text), things);
        Check.is("fault of town " + text, x.fault(), -1);
        Check.is("things of town " + text, x.told(2), things);
    }

    private static void townFaults() {
        townFault("place 1;", 1, 0);
        townFault("placess 1;", 1, 0);
        townFault("Places 1;", 1, 0);
        townFault("  ;", 1, 2);
        townFault("7;", 1, 0);
        townFault("places;", 1, 6);
        townFault("places", 1, 6);
        townFault("places  ", 1, 8);
        townFault("places 1", 1, 8);
        townFault("places 1 ", 1, 9);
        townFault("places 1 2;", 1, 9);
        townFault("places -1;", 1, 7);
        townFault("places 0;", 2, 7);
        townFault("places   9;", 2, 9);
        townFault("places 4294967297;", 2, 7);
        townFault("places 18446744073709551617;", 2, 7);
        townFault("places 4;places 5;", 2, 16);
        townFault("places 2;road 2 0 1;", 2, 14);
        townFault("places 2;road 0 2 1;", 2, 16);
        townFault("places 2;road 1 1 99;", 2, 16);
        townFault("places 2;road 1 1;", 2, 16);
        townFault("places 2;road 1 0 0;", 2, 18);
        townFault("places 2;road 1 0 10;", 2, 18);
        townFault("places 2;road 1 0;", 1, 17);
        townFault("places 2;road 1 0 4,", 1, 19);
        townFault("thing 0 5;", 2, 6);
        townFault("places 1;thing 1 5;", 2, 15);
        townFault("places 1;thing 0 0;", 2, 17);
        townFault("places 1;thing 0 61;", 2, 17);
        townFault("places 1;finder 1;", 2, 16);
        townFault("places 1;own 0 5;", 2, 13);
        townFault("places 1;finder 0;own 1 5;", 2, 22);
        townFault("places 1;finder 0;own 0 61;", 2, 24);
        townFault("places 1;\t", 1, 9);
        townFault("places 1;;", 1, 9);
    }

    private static void townFaultsOfMany() {
        townFault("places 2;" + Check.times("road 0 1 1;", 12) + " road", 3, 9 + 132 + 1);
        townFault("places 2;" + Check.times("road 0 1 1;", 12) + "roads", 1, 9 + 132);
        townFault("places 1;" + Check.times("thing 0 1;", 10) + "thing 0 1;", 3, 109);
        townFault("places 1;finder 0;" + Check.times("thing 0 1;", 10) + "own 0 1;", 3, 118);
        townFault("places 1;finder 0;" + Check.times("own 0 1;", 10) + "thing 9 99;", 3, 98);
        townFault("places 1;" + Check.times("finder 0;", 6) + "finder 7;", 3, 63);
        // Eight more of PLACES are a number's FAULT, not one of its word.
        townFault("places 8;places 1;", 2, 16);
    }

    private static void townFault(String text, int kind, int place) {
        faultOf("town", text, kind, place);
    }

    private static void faultOf(String kindOfText, String text, int kind, int place) {
        EvenFinders x = Check.in(LITTLE);
        Check.work(x, "night;find 0 0;");
        Check.book(x, "0 5;");
        int answer;
        switch (kindOfText) {
            case "town": answer = Check.town(x, text); break;
            case "law": answer = Check.law(x, text); break;
            case "work": answer = Check.work(x, text); break;
            default: answer = Check.book(x, text); break;
        }
        String label = kindOfText + " " + text;
        Check.is(label, answer, kind - 10);
        Check.is("fault of " + label, x.fault(), place);
        Check.is("tape behind " + label, x.count(1), 0);
        Check.is("day behind " + label, x.told(4), 1);
        Check.is("things behind " + label, x.told(2), 2);
        Check.is("book behind " + label, x.told(9), 1);
        Check.is("works behind " + label, x.count(2), 1);
        Check.is("law behind " + label, x.would(7, 1, 1, 1, 1, 1, 1, 1), 7);
        Check.is("owes behind " + label, x.finder(0, 1), 5);
    }

    private static void townReplaces() {
        EvenFinders x = Check.in(LITTLE);
        Check.law(x, "3");
        Check.book(x, "0 5;1 6;");
        Check.work(x, "find 0 0;find 0 0;night;");
        x.image();
        Check.is("refused ahead of the town", x.told(10), 1);
        Check.is("new town", Check.town(x, "places 2;finder 1;thing 1 9;"), 1);
        Check.is("no law", x.duty(0, 0), 9);
        Check.is("no book", x.told(9), 0);
        Check.is("no images", x.count(0), 0);
        Check.is("no works", x.count(2), 0);
        Check.is("undo", x.undo(), -1);
        Check.is("restore", x.restore(), -1);
        Check.is("day", x.told(4), 0);
        Check.is("shamed", x.told(11), 0);
        Check.is("refused", x.told(10), 0);
        Check.is("owes", x.finder(0, 1), 0);
        Check.is("found", x.finder(0, 5), 0);
        Check.is("walked", x.finder(0, 4), 0);
        Check.is("holder", x.thing(0, 2), -1);
    }

    private static void lawFaults() {
        lawFault("", 1, 0);
        lawFault("  ", 1, 2);
        lawFault("1 2", 1, 2);
        lawFault("1+", 1, 2);
        lawFault("1 + * 2", 1, 4);
        lawFault("-1", 1, 0);
        lawFault("1--1", 1, 2);
        lawFault("worths", 1, 0);
        lawFault("worth worth", 1, 6);
        lawFault("worth5", 1, 5);
        lawFault("1000", 2, 0);
        lawFault("1 + 99999999999999999999", 2, 4);
        lawFault("(1", 1, 2);
        lawFault("(1]", 1, 2);
        lawFault("()", 1, 1);
        lawFault("1)", 1, 1);
        lawFault("least", 1, 5);
        lawFault("least(1,2)", 1, 5);
        lawFault("least[1]", 1, 7);
        lawFault("least[1,2)", 1, 9);
        lawFault("least[1,2,3]", 1, 9);
        lawFault("most[,2]", 1, 5);
        lawFault("((((((least[1,2]))))))", 3, 6);
        lawFault("((((((most 5))))))", 3, 6);
        lawFault("((((((many(5))))))", 1, 6);
        lawFault("least[least[most[(least[(", 1, 25);
        lawFault("least[least[most[(least[((", 3, 25);
        lawFault("1;", 1, 1);
        lawFault("A", 1, 0);
        lawFault("day + days", 1, 6);
        lawFault("1\n", 1, 1);
    }

    private static void lawFault(String text, int kind, int place) {
        faultOf("law", text, kind, place);
    }

    private static void workFaults() {
        workFault("nigh;", 1, 0);
        workFault("night", 1, 5);
        workFault("night night;", 1, 6);
        workFault("night;;", 1, 6);
        workFault("walk 0;", 1, 6);
        workFault("walk 2 0;", 2, 5);
        workFault("walk 0 1;", 2, 7);
        workFault("find 0 2;", 2, 7);
        workFault("lose 2 0;", 2, 5);
        workFault("slip 0 9;", 2, 7);
        workFault("again 31[];", 2, 6);
        workFault("again[];", 1, 5);
        workFault("again 2;", 1, 7);
        workFault("again 2[night];", 1, 13);
        workFault("again 2[night;;];", 1, 14);
        workFault("again 2[night;", 1, 14);
        workFault("again 2[night;] ", 1, 16);
        workFault("again 2[night;]night;", 1, 15);
        workFault("];", 1, 0);
        workFault("night;night;];", 1, 12);
        workFault(Check.times("again 1[", 6) + "again", 3, 48);
        workFault(Check.times("again 1[", 6) + "agains", 1, 48);
        workFault("find 0 0;find 0 7;", 2, 16);
    }

    private static void workFault(String text, int kind, int place) {
        faultOf("work", text, kind, place);
    }

    private static void bookFaults() {
        bookFault("0;", 1, 1);
        bookFault("0 1", 1, 3);
        bookFault("0 1,", 1, 3);
        bookFault("3 1;", 2, 0);
        bookFault("0 601;", 2, 2);
        bookFault("0 1;1 1;0 1;", 2, 8);
        bookFault("0 1;1 1;  01 1;", 2, 10);
        bookFault("0 1;1 1;0", 2, 8);
        bookFault("a", 1, 0);
        EvenFinders x = Check.in("places 8;");
        Check.is("book", Check.book(x, "7 600; 0 0 ;003 5;"), 3);
        Check.is("lines", x.told(9), 3);
        Check.is("fault", x.fault(), -1);
        Check.is("all lines", Check.book(x, "0 0;1 0;2 0;3 0;4 0;5 0;6 0;7 0; "), 8);
        Check.is("no lines", Check.book(x, ""), 0);
        Check.is("lines", x.told(9), 0);
    }

    private static void bookFault(String text, int kind, int place) {
        faultOf("book", text, kind, place);
    }

    private static void longTexts() {
        EvenFinders x = new EvenFinders();
        // No 61 CLAUSES of PLACES, ROADS, THINGS and FINDERS can be, 36 are the most: the CLAUSE that is one too
        // many can only be met where another FAULT is not.
        Check.is("brackets", Check.law(x, Check.times("(", 6) + "7" + Check.times(")", 6)), 1);
        Check.is("brackets come out", x.would(1, 0, 0, 0, 0, 0, 0, 0), 7);
        Check.is("sums", Check.law(x, Check.times("1+", 74) + "1"), 1);
        Check.is("sums come out", x.would(1, 0, 0, 0, 0, 0, 0, 0), 75);
        Check.is("nights", Check.work(x, Check.times("night;", 25)), 25);
        Check.is("day", x.told(4), 25);
        Check.is("six agains", Check.work(x, Check.times("again 1[", 6) + "night;" + Check.times("];", 6)), 1);
        Check.is("day", x.told(4), 26);
    }
}
