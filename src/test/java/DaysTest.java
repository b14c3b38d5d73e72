/** Promises 4, 5 and 8 to 17: the LAW, STEPS, undo, and what is told of PLACES, ROADS, THINGS and FINDERS. */
public final class DaysTest {
    public static void main(String[] args) {
        tellsTheTown();
        walks();
        finds();
        losesAndSlips();
        nights();
        lastNight();
        loops();
        stepLimit();
        undoes();
        worksAreFull();
        laws();
        dutyNow();
        wouldRanges();
        ahead();
        canFind();
        refusesNumbers();
        Check.end("DaysTest");
    }

    private static final String TOWN = "places 4;road 0 1 4;road 1 0 9;road 1 2 3;finder 0;finder 2;"
            + "thing 0 10;thing 2 7;own 0 5;own 0 8;thing 0 30;own 1 12;";

    private static void tellsTheTown() {
        EvenFinders x = Check.in(TOWN);
        long[] told = {4, 3, 6, 2, 0, 0b101100, 0b11, 0, 47, 0, 0, 0};
        for (int what = 0; what < told.length; what++) {
            Check.is("told " + what, x.told(what), told[what]);
        }
        long[][] places = {{0b010001, 40, 1, 2}, {0, 0, 0, 3}, {0b000010, 7, 2, 1}, {0, 0, 0, 0}};
        for (int place = 0; place < 4; place++) {
            for (int what = 0; what < 4; what++) {
                Check.is("place " + place + " " + what, x.place(place, what), places[place][what]);
            }
        }
        long[][] roads = {{0, 1, 4}, {1, 0, 9}, {1, 2, 3}};
        for (int road = 0; road < 3; road++) {
            for (int what = 0; what < 3; what++) {
                Check.is("road " + road + " " + what, x.road(road, what), roads[road][what]);
            }
        }
        long[][] things = {{10, 0, -1}, {7, 2, -1}, {5, 0, 0}, {8, 0, 0}, {30, 0, -1}, {12, 2, 1}};
        for (int thing = 0; thing < 6; thing++) {
            for (int what = 0; what < 3; what++) {
                Check.is("thing " + thing + " " + what, x.thing(thing, what), things[thing][what]);
            }
        }
        long[][] finders = {{0, 0, 0b001100, 13, 0, 0, 0}, {2, 0, 0b100000, 12, 0, 0, 0}};
        for (int finder = 0; finder < 2; finder++) {
            for (int what = 0; what < 7; what++) {
                Check.is("finder " + finder + " " + what, x.finder(finder, what), finders[finder][what]);
            }
        }
    }

    private static void walks() {
        EvenFinders x = Check.in("places 3;road 0 1 8;road 1 2 9;road 0 2 7;road 0 1 1;finder 0;own 0 4;");
        Check.is("not at its end", Check.work(x, "walk 0 1;"), 0);
        Check.is("refused", x.told(10), 1);
        Check.is("both ways, by 24 at the most", Check.work(x, "walk 0 0;walk 0 0;walk 0 0;walk 0 3;"), 3);
        Check.is("refused", x.told(10), 1);
        Check.is("place", x.finder(0, 0), 1);
        Check.is("walked", x.finder(0, 4), 24);
        Check.is("what it holds comes along", x.thing(0, 1), 1);
        Check.is("a new day", Check.work(x, "night;walk 0 1;walk 0 2;walk 0 0;walk 0 3;"), 3 + 1);
        Check.is("refused: 25 walked", x.told(10), 1);
        Check.is("walked", x.finder(0, 4), 24);
        Check.is("place", x.finder(0, 0), 1);
    }

    private static void finds() {
        EvenFinders x = Check.in(TOWN);
        Check.is("found", Check.work(x, "find 0 1;find 0 2;find 0 5;find 0 0;find 0 4;"), 1);
        Check.is("elsewhere, held, held by another, owing", x.told(10), 4);
        Check.is("owes", x.finder(0, 1), 10);
        Check.is("found", x.finder(0, 5), 1);
        Check.is("holds", x.finder(0, 2), 0b001101);
        Check.is("worth", x.finder(0, 3), 23);
        Check.is("lies", x.place(0, 0), 0b010000);
        Check.is("owing", x.told(7), 1);
        Check.is("even", x.told(6), 2);
        Check.is("holder", x.thing(0, 2), 0);
        Check.is("lying worth", x.told(8), 37);
        EvenFinders y = Check.in("places 1;finder 0;thing 0 5;thing 0 6;");
        Check.law(y, "0");
        Check.is("a find for nothing leaves one even", Check.work(y, "find 0 0;find 0 1;"), 2);
        Check.is("even", y.told(6), 1);
    }

    private static void losesAndSlips() {
        EvenFinders x = Check.in(TOWN);
        Check.is("even ones do not lose", Check.work(x, "lose 0 2;"), 0);
        Check.is("what another holds", Check.work(x, "find 0 0;lose 0 5;lose 1 2;slip 0 5;slip 0 1;"), 1);
        Check.is("refused", x.told(10), 4);
        Check.is("lost", Check.work(x, "walk 0 0;lose 0 2;"), 2);
        Check.is("owes less", x.finder(0, 1), 5);
        Check.is("lies there", x.thing(2, 1), 1);
        Check.is("held by none", x.thing(2, 2), -1);
        Check.is("lost, 0 at the least", Check.work(x, "lose 0 3;"), 1);
        Check.is("even", x.finder(0, 1), 0);
        Check.is("slipped", Check.work(x, "slip 0 0;"), 1);
        Check.is("credit", x.finder(0, 1), -10);
        Check.is("not even", x.told(6), 2);
        Check.is("nor owing", x.told(7), 0);
        Check.is("found on credit", Check.work(x, "find 0 3;"), 1);
        Check.is("less credit", x.finder(0, 1), -2);
        Check.is("once more", Check.work(x, "find 0 2;find 0 0;"), 1);
        Check.is("owes", x.finder(0, 1), 3);
        Check.is("slipped while owing", Check.work(x, "slip 0 3;"), 1);
        Check.is("below 0", x.finder(0, 1), -5);
        EvenFinders y = Check.in("places 1;finder 0;own 0 60;own 0 39;own 0 1;");
        Check.work(y, "slip 0 0;slip 0 1;");
        Check.is("99 below", y.finder(0, 1), -99);
        Check.is("done all the same", Check.work(y, "slip 0 2;"), 1);
        Check.is("no further", y.finder(0, 1), -99);
        Check.is("lies", y.thing(2, 2), -1);
    }

    private static void nights() {
        EvenFinders x = Check.in("places 2;road 0 1 1;finder 0;finder 0;finder 0;own 0 8;own 0 5;own 0 5;own 1 3;"
                + "thing 0 60;thing 0 4;own 2 1;");
        Check.work(x, "find 0 4;find 1 5;walk 0 0;");
        Check.is("night", Check.work(x, "night;"), 1);
        Check.is("day", x.told(4), 1);
        Check.is("the least, the first of alike ones, where it is", x.thing(1, 1), 1);
        Check.is("is let go", x.thing(1, 2), -1);
        Check.is("its like stays", x.thing(2, 2), 0);
        Check.is("another's least", x.thing(3, 2), -1);
        Check.is("who is even keeps", x.thing(6, 2), 2);
        Check.is("what is owed stays", x.finder(0, 1), 60);
        Check.is("shamed", x.finder(0, 6), 1);
        Check.is("not shamed", x.finder(2, 6), 0);
        Check.is("walked", x.finder(0, 4), 0);
        Check.is("shames of all", x.told(11), 2);
        Check.work(x, "again 9[night;];");
        Check.is("shamed without a thing", x.finder(0, 6), 10);
        Check.is("holds nothing", x.finder(0, 2), 0);
        Check.is("held", x.told(5), 0b1000000);
        Check.is("shames of all", x.told(11), 20);
    }

    private static void lastNight() {
        EvenFinders x = Check.in("places 1;finder 0;thing 0 1;");
        // A find, the outer again, 6 rounds of 31 STEPS, then an again and 11 nights.
        Check.is("191 nights", Check.work(x, "find 0 0;again 30[again 30[night;];];"), 192);
        Check.is("day", x.told(4), 191);
        Check.work(x, "again 30[again 30[night;];];");
        int left = 400 - x.told(4);
        Check.is("the last ones", Check.work(x, "again 30[again 30[night;];];"), left);
        Check.is("day", x.told(4), 400);
        Check.is("no more nights", Check.work(x, "night;"), 0);
        Check.is("refused", x.told(10), 1);
        Check.is("day", x.told(4), 400);
        Check.is("shamed", x.finder(0, 6), 400);
        Check.is("asked, days go by all the same", x.ahead(99, 1), 499);
        Check.is("in a year too", x.year(1, 0, 96, 2), 96);
    }

    private static void loops() {
        EvenFinders x = new EvenFinders();
        Check.is("never", Check.work(x, "again 0[night;];"), 0);
        Check.is("thrice", Check.work(x, "again 3[night;night;];night;"), 7);
        Check.is("day", x.told(4), 7);
        Check.is("within", Check.work(x, " again 2 [ night ; again 3 [ night ; ] ; ] ; "), 8);
        Check.is("empty", Check.work(x, "again 30[again 30[];];"), 0);
        Check.is("refused", x.told(10), 0);
    }

    private static void stepLimit() {
        EvenFinders x = new EvenFinders();
        Check.is("an again counts", Check.work(x, "again 30[night;night;night;night;night;night;night;];"), 199);
        EvenFinders y = new EvenFinders();
        // 1 outer one, then 14 rounds of an again and 13 nights, 196 more, then an again and 2 nights.
        Check.is("each again", Check.work(y, "again 30[again 13[night;];];night;"), 14 * 13 + 2);
        Check.is("day", y.told(4), 184);
        EvenFinders z = Check.in("places 1;finder 0;thing 0 1;own 0 2;");
        Check.is("refused ones count", Check.work(z, "again 30[find 0 1;again 30[lose 0 1;];];night;"), 0);
        // 1, then 6 rounds of 32, then a find, an again and 5 loses: 200 begun, 8 agains among them.
        Check.is("refused", z.told(10), 200 - 8);
        EvenFinders w = new EvenFinders();
        Check.is("empty ones", Check.work(w, "again 22[again 8[];];again 26[again 3[];];again 30[night;];"), 30);
        Check.is("ones never done", Check.work(w, "again 30[again 4[night;];];again 30[again 0[];];night;"), 121);
        EvenFinders v = new EvenFinders();
        Check.is("the last one", Check.work(v, "again 6[again 30[night;];];again 11[night;];night;"), 192);
        Check.is("left out", Check.work(v, "again 6[again 30[night;];];again 12[night;];night;"), 192);
    }

    private static void undoes() {
        EvenFinders x = Check.in(TOWN);
        Check.is("nothing to undo", x.undo(), -1);
        Check.work(x, "walk 0 0;night;");
        Check.work(x, "walk 0 0;find 0 0;find 0 0;slip 0 2;");
        Check.is("refused", x.told(10), 1);
        Check.is("works", x.count(2), 2);
        Check.is("undo", x.undo(), 1);
        Check.is("refused behind undo", x.told(10), 0);
        Check.is("place", x.finder(0, 0), 1);
        Check.is("holds", x.finder(0, 2), 0b001100);
        Check.is("owes", x.finder(0, 1), 0);
        Check.is("found", x.finder(0, 5), 0);
        Check.is("day", x.told(4), 1);
        Check.is("undo", x.undo(), 0);
        Check.is("day", x.told(4), 0);
        Check.is("place", x.finder(0, 0), 0);
        Check.is("undo", x.undo(), -1);
        Check.is("a faulty work is none", Check.work(x, "nigh;"), -9);
        Check.is("undo", x.undo(), -1);
        Check.is("a work of nothing is one", Check.work(x, ""), 0);
        Check.is("undo", x.undo(), 0);
    }

    private static void worksAreFull() {
        EvenFinders x = new EvenFinders();
        for (int i = 1; i <= 16; i++) {
            Check.is("work " + i, Check.work(x, "night;"), 1);
            Check.is("count " + i, x.count(2), i);
        }
        Check.law(x, "1+");
        Check.is("a fault", x.fault(), 2);
        Check.feed(x, "rubbish");
        Check.wrong("its length first", () -> x.work(21));
        Check.is("tape", x.count(1), 20);
        Check.is("full", x.work(7), -20);
        Check.is("no fault", x.fault(), -1);
        Check.is("empty tape", x.count(1), 0);
        Check.is("day", x.told(4), 16);
        Check.is("undo", x.undo(), 15);
        Check.is("work", Check.work(x, "night;night;"), 2);
        Check.is("full", Check.work(x, "night;"), -20);
    }

    private static void laws() {
        comesOut("worth", 17);
        comesOut("owes", 0);
        comesOut("0 - owes", 4);
        comesOut("held", 3);
        comesOut("finds", 5);
        comesOut("lying", 6);
        comesOut("day", 99);
        comesOut("day-100", 99);
        comesOut("day-250", 50);
        comesOut("shame", 9);
        comesOut("finder", 2);
        comesOut("2+3*4", 14);
        comesOut("(2+3)*4", 20);
        comesOut("20-3-4", 13);
        comesOut("99/10/3", 3);
        comesOut("99%10%4", 1);
        comesOut("7/2*2", 6);
        comesOut("50+(0-7)/2", 47);
        comesOut("50+(0-7)%4", 47);
        comesOut("50+7%(0-4)", 53);
        comesOut("50+5/0", 50);
        comesOut("50+5%0", 50);
        comesOut("least[4,7]", 4);
        comesOut("most[4,7]", 7);
        comesOut(" least [ worth , most [ held , shame ] ] ", 9);
        comesOut("50+least[0-1,0-2]", 48);
        comesOut("999", 99);
        comesOut("98", 98);
        comesOut("0-1", 0);
        comesOut("0098", 98);
        // These wrap at 32 bits.
        comesOut("999*999*999*999/(500*500*400)", clamp(999 * 999 * 999 * 999 / (500 * 500 * 400)));
        comesOut("0-999*999*999*999/(500*500*400)", clamp(-(999 * 999 * 999 * 999 / (500 * 500 * 400))));
        // The least number by -1 stays, and leaves nothing.
        comesOut("(2*(512*512*512*8))/(0-1)+60", clamp(2 * (512 * 512 * 512 * 8) / -1 + 60));
        comesOut("(2*(512*512*512*8))%(0-1)+60", 60);
        comesOut("((((((5))))))", 5);
        comesOut("least[least[least[least[least[least[9,8],7],6],5],4],3]", 3);
    }

    private static int clamp(int value) {
        return Math.max(0, Math.min(99, value));
    }

    private static void comesOut(String law, int due) {
        EvenFinders x = new EvenFinders();
        Check.is("law " + law, Check.law(x, law), 1);
        Check.is("fault of law " + law, x.fault(), -1);
        Check.is("would by " + law, x.would(17, -4, 3, 5, 6, 300, 9, 2), due);
    }

    private static void dutyNow() {
        EvenFinders x = Check.in(TOWN);
        Check.law(x, "worth");
        Check.is("there", x.duty(0, 0), 10);
        Check.is("not there", x.duty(0, 1), 7);
        Check.is("held", x.duty(0, 5), 12);
        Check.work(x, "slip 0 2;");
        Check.law(x, "lying*10+held");
        Check.is("lying counts as it is ahead", x.duty(0, 0), 31);
        Check.is("where the finder is", x.duty(1, 0), 11);
        Check.law(x, "0-owes");
        Check.is("owes", x.duty(0, 0), 5);
        Check.law(x, "lying*10+held");
        Check.work(x, "find 0 0;");
        Check.is("duty as it was ahead", x.finder(0, 1), -5 + 31);
        Check.law(x, "finds*50+day*10+shame*3+finder");
        Check.work(x, "night;night;");
        Check.is("finds, day, shame", x.duty(0, 0), 50 + 20 + 6);
        Check.is("finder", x.duty(1, 0), 21);
        Check.law(x, "owes");
        Check.is("owes", x.duty(0, 0), 26);
        Check.is("undo leaves the law", x.undo(), 2);
        Check.is("owes", x.duty(0, 0), 26);
    }

    private static void wouldRanges() {
        EvenFinders x = new EvenFinders();
        int[] least = {1, -99, 0, 0, 0, 0, 0, 0};
        int[] most = {60, 999, 10, 999, 10, 400, 999, 5};
        Check.is("least", would(x, least), 1);
        Check.is("most", would(x, most), 60);
        for (int i = 0; i < 8; i++) {
            int[] below = least.clone();
            below[i]--;
            Check.wrong("below " + i, () -> would(x, below));
            int[] above = most.clone();
            above[i]++;
            Check.wrong("above " + i, () -> would(x, above));
        }
        Check.is("status(1)", x.status(1), 16);
    }

    private static long would(EvenFinders x, int[] v) {
        return x.would(v[0], v[1], v[2], v[3], v[4], v[5], v[6], v[7]);
    }

    private static void ahead() {
        EvenFinders x = Check.in("places 1;finder 0;finder 0;own 0 8;own 0 5;own 1 4;thing 0 9;");
        Check.work(x, "find 0 3;night;");
        Check.is("now", x.ahead(0, 0), 0b1101);
        Check.is("now", x.ahead(0, 1), 1);
        Check.is("now", x.ahead(0, 2), 5);
        Check.is("one", x.ahead(1, 0), 0b1100);
        Check.is("one", x.ahead(1, 1), 2);
        Check.is("one", x.ahead(1, 2), 13);
        Check.is("two", x.ahead(2, 0), 0b0100);
        Check.is("two", x.ahead(2, 2), 22);
        Check.is("99", x.ahead(99, 1), 100);
        Check.is("nothing stays changed", x.told(4), 1);
        Check.is("nothing stays changed", x.told(5), 0b1101);
        Check.wrong("-1", () -> x.ahead(-1, 0));
        Check.wrong("100", () -> x.ahead(100, 0));
        Check.wrong("what", () -> x.ahead(0, 3));
        Check.wrong("what", () -> x.ahead(0, -1));
    }

    private static void canFind() {
        EvenFinders x = Check.in(TOWN);
        Check.is("there", x.can(0, 0) ? 1 : 0, 1);
        Check.is("elsewhere", x.can(0, 1) ? 1 : 0, 0);
        Check.is("held", x.can(0, 2) ? 1 : 0, 0);
        Check.is("lucky", x.lucky(), 3);
        Check.work(x, "find 0 0;");
        Check.is("owing", x.can(0, 4) ? 1 : 0, 0);
        Check.is("lucky", x.lucky(), 2);
        Check.work(x, "find 1 1;lose 1 5;");
        Check.is("even again, and its own thing lies there", x.lucky(), 2);
        Check.unknown("finder", () -> x.can(2, 0) ? 1 : 0);
        Check.unknown("thing", () -> x.can(0, 6) ? 1 : 0);
    }

    private static void refusesNumbers() {
        EvenFinders x = Check.in(TOWN);
        for (int i : new int[] {-1, Integer.MIN_VALUE, Integer.MAX_VALUE, 12}) {
            Check.unknown("place", () -> x.place(i, 0));
            Check.unknown("place ahead of what", () -> x.place(i, 9));
            Check.unknown("road", () -> x.road(i, 9));
            Check.unknown("thing", () -> x.thing(i, 9));
            Check.unknown("finder", () -> x.finder(i, 9));
            Check.unknown("duty", () -> x.duty(i, 0));
            Check.unknown("duty", () -> x.duty(0, i));
            Check.wrong("told", () -> x.told(i));
            Check.wrong("place what", () -> x.place(3, i));
            Check.wrong("road what", () -> x.road(2, i));
            Check.wrong("thing what", () -> x.thing(5, i));
            Check.wrong("finder what", () -> x.finder(1, i));
        }
        Check.wrong("place 4", () -> x.place(0, 4));
        Check.wrong("road 3", () -> x.road(0, 3));
        Check.wrong("thing 3", () -> x.thing(0, 3));
        Check.wrong("finder 7", () -> x.finder(0, 7));
        Check.unknown("place 4", () -> x.place(4, 0));
        Check.unknown("road 3", () -> x.road(3, 0));
        Check.unknown("thing 6", () -> x.thing(6, 0));
        Check.unknown("finder 2", () -> x.finder(2, 0));
        Check.is("status(0)", x.status(0), 4 * 7 + 4);
        Check.is("status(1)", x.status(1), 4 * 5 + 4);
    }
}
