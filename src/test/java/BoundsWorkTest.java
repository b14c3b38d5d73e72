/** Promises 5 and 8 at their bounds: WORK, its FAULTS, its STEPS, and WORK undone. */
public final class BoundsWorkTest {
    private static final String SIX_NIGHTS = "night;night;night;night;night;night;";
    /** 1 again with 180 nights, 1 again with 18: 200 STEPS are begun. */
    private static final String NIGHTS_198 = "again 30[" + SIX_NIGHTS + "];again 18[night;];";
    /** FINDERS 0 to 4 are at PLACES 1 to 5 and hold THINGS 0 to 4, the last one holds THING 8 at PLACE 7. */
    private static final String FULLEST = "places 8;" + "road 0 1 1;".repeat(11) + "road 7 0 1;"
            + "finder 1;finder 2;finder 3;finder 4;finder 5;finder 7;own 0 1;own 1 2;own 2 3;own 3 4;own 4 5;"
            + "thing 6 5;thing 6 6;own 4 7;own 5 8;thing 0 9;";

    public static void main(String[] args) {
        Bounds.run(BoundsWorkTest.class);
    }

    private static EvenFinders stands(EvenFinders x, String text, int done, int refused) {
        Texts.stands("work", x, text, done);
        Check.is("REFUSED by '" + text + "'", x.told(10), refused);
        return x;
    }

    private static void fails(String text, int fault, int place) {
        Texts.fails("work", text, fault, place);
    }

    /** A STEP that is REFUSED behind such WORK changes nothing: all is as behind a WORK of no STEPS. */
    private static void isRefused(String town, String law, String ahead, String step) {
        EvenFinders x = ready(town, law, ahead);
        stands(x, step, 0, 1);
        EvenFinders y = ready(town, law, ahead);
        stands(y, "", 0, 0);
        // Behind restore() the STEPS that were REFUSED are forgotten.
        x.image();
        x.restore();
        Check.same("behind '" + step + "'", Drain.of(x), Drain.of(y));
    }

    private static EvenFinders ready(String town, String law, String ahead) {
        EvenFinders x = Check.in(town);
        Check.law(x, law);
        Check.work(x, ahead);
        Check.is("all of '" + ahead + "' can be done", x.told(10), 0);
        return x;
    }

    private static EvenFinders dayOf(EvenFinders x, int day) {
        while (x.told(4) + 198 <= day) {
            Check.work(x, NIGHTS_198);
        }
        while (x.told(4) < day) {
            Check.work(x, "again " + Math.min(30, day - x.told(4)) + "[night;];");
        }
        Check.is("DAY", x.told(4), day);
        return x;
    }

    // ---- promise 5: the text

    @Says(promise = 5, value = "Likewise WORK (n to 150), which is done:")
    private static void theLengthOfWork() {
        EvenFinders x = new EvenFinders();
        Check.wrong("1 of 0", () -> x.work(1));
        Check.wrong("-1 of 0", () -> x.work(-1));
        Check.feed(x, "night;".repeat(27));
        Check.is("the TAPE", x.count(1), 180);
        Check.wrong("151 of 180", () -> x.work(151));
        Check.wrong("180 of 180", () -> x.work(180));
        Check.wrong("181 of 180", () -> x.work(181));
        Check.wrong("-1 of 180", () -> x.work(-1));
        Check.wrong("least of 180", () -> x.work(Integer.MIN_VALUE));
        Check.wrong("most of 180", () -> x.work(Integer.MAX_VALUE));
        Check.is("the TAPE stays", x.count(1), 180);
        Check.is("no WORK", x.count(2), 0);
        Check.is("DAY", x.told(4), 0);
        Check.is("status(0)", x.status(0), 0);
        Check.is("status(1)", x.status(1), 8);
        Check.is("150 of 180", x.work(150), 25);
        Check.is("DAY", x.told(4), 25);
        Check.is("the TAPE is empty", x.count(1), 0);
        Check.feed(x, "night;night;");
        Check.wrong("21 of 20", () -> x.work(21));
        Check.is("6 of 20", x.work(6), 1);
        Check.is("DAY", x.told(4), 26);
        Check.feed(x, "night;night;");
        Check.is("0 of 20", x.work(0), 0);
        Check.is("WORKS", x.count(2), 3);
        Check.is("the TAPE is empty", x.count(1), 0);
    }

    @Says(promise = 5, value = {"WORK is a text of up to 150 bytes: { STEP \";\" }.",
        "STEP: \"walk\" A R, \"find\" A T, \"lose\" A T, \"slip\" A T, \"night\","})
    private static void stepsOfWork() {
        stands(new EvenFinders(), "", 0, 0);
        stands(new EvenFinders(), " ".repeat(150), 0, 0);
        stands(new EvenFinders(), " ".repeat(144) + "night;", 1, 0);
        stands(Drain.full(), "walk1 0;find1 3;lose1 3;slip1 3;night;", 4, 1);
        // FINDERS 0 to 1, ROADS 0 to 1, THINGS 0 to 3.
        fails("walk 2 0;", 2, 5);
        fails("walk 1 2;", 2, 7);
        for (String word : new String[] {"find", "lose", "slip"}) {
            fails(word + " 2 0;", 2, 5);
            fails(word + " 1 4;", 2, 7);
            fails(word + " 1;", 1, 6);
            fails(word + ";", 1, 4);
            fails(word + " 1 3", 1, 8);
            fails(word + " 1 3 1;", 1, 9);
            stands(Drain.full(), word + " 0 3;" + word + " 1 0;", 0, 2);
        }
        stands(Drain.full(), "walk 0 1;walk 1 0;", 2, 0);
        fails("night", 1, 5);
        fails("night 1;", 1, 6);
        fails("night;;", 1, 6);
        fails(";", 1, 0);
        fails("5;", 1, 0);
        EvenFinders x = new EvenFinders();
        Check.is("no FINDERS", Texts.read(x, "work", "walk 0 0;"), -8);
        Check.is("no FINDERS", x.fault(), 5);
        EvenFinders y = Check.in("places 1;finder 0;");
        Check.is("no ROADS", Texts.read(y, "work", "walk 0 0;"), -8);
        Check.is("no ROADS", y.fault(), 7);
        Check.is("no THINGS", Texts.read(y, "work", "slip 0 0;"), -8);
        Check.is("no THINGS", y.fault(), 7);
    }

    @Says(promise = 5, value = "or \"again\" N \"[\" { STEP \";\" } \"]\" (N 0 to 30).")
    private static void againsOfWork() {
        stands(new EvenFinders(), "again 0[night;];", 0, 0);
        stands(new EvenFinders(), "again 1[night;];", 1, 0);
        stands(new EvenFinders(), "again 30[night;];", 30, 0);
        stands(new EvenFinders(), "again 0030[night;];", 30, 0);
        stands(new EvenFinders(), "again 30[];", 0, 0);
        stands(new EvenFinders(), "again 3[night;night;];night;", 7, 0);
        stands(new EvenFinders(), "again 3[night;again 2[night;];];", 9, 0);
        stands(new EvenFinders(), "again 0[again 30[night;];night;];night;", 1, 0);
        fails("again 31[];", 2, 6);
        fails("again 4294967296[];", 2, 6);
        fails("again[];", 1, 5);
        fails("again 2;", 1, 7);
        fails("again 2(night;);", 1, 7);
        fails("again 2[night];", 1, 13);
        fails("again 2[;];", 1, 8);
        fails("again 2[night;", 1, 14);
        fails("again 2[night;]", 1, 15);
        fails("again 2[night;]]", 1, 15);
        fails("again 2[night;]night;", 1, 15);
        fails("again 0[walk 9 9;];", 2, 13);
        fails("];", 1, 0);
        fails("night;];", 1, 6);
    }

    @Says(promise = 5, value = {"Numbers: digits, as many as stand there; WORDS: small letters, as many as stand there;",
        "blanks (32) may stand ahead of all these, and at the end."})
    private static void wordsAndBlanksInWork() {
        stands(new EvenFinders(), "  night  ;  again  2  [  night  ;  ]  ;  ", 3, 0);
        stands(Drain.full(), "  walk   0   1  ;", 1, 0);
        stands(Drain.full(), "walk 00 0000000001;", 1, 0);
        fails("nights;", 1, 0);
        fails("nigh;", 1, 0);
        fails("nightnight;", 1, 0);
        fails("Night;", 1, 0);
        fails("nightT;", 1, 5);
        fails("nighta;", 1, 0);
        fails("nightz;", 1, 0);
        fails("ni ght;", 1, 0);
        fails("walk 0x 0;", 1, 6);
        fails("walk 01;", 1, 7);
        fails("walk 4294967296 0;", 2, 5);
        fails("worth;", 1, 0);
        for (int other : new int[] {0, 9, 10, 13, 31, 33, 160, 255}) {
            fails("night" + (char) other + ";", 1, 5);
            fails("night;" + (char) other, 1, 6);
        }
    }

    @Says(promise = 5, value = "or a 7th of ( least most again that is open at one time;")
    private static void sixAgainsAreOpen() {
        stands(new EvenFinders(), "again 1[".repeat(6) + "night;" + "];".repeat(6), 1, 0);
        stands(new EvenFinders(), "again 2[".repeat(6) + "night;" + "];".repeat(6), 64, 0);
        fails("again 1[".repeat(7) + "night;" + "];".repeat(7), 3, 48);
        fails("again 1[".repeat(6) + "night;  again", 3, 56);
        fails("again 1[".repeat(6) + "again 99", 3, 48);
        fails("again 0[".repeat(7), 3, 48);
        fails("again 1[".repeat(6), 1, 48);
        // What is closed is open no more.
        stands(new EvenFinders(), "again 1[];".repeat(9) + "night;", 1, 0);
        stands(new EvenFinders(), "again 1[".repeat(5) + "again 1[];again 1[];again 1[night;];" + "];".repeat(5), 1, 0);
    }

    @Says(promise = 5, value = "of one the least.")
    private static void ofOneTheLeast() {
        fails("again 1[".repeat(6) + "agains", 1, 48);
        fails("again 1[".repeat(6) + "night again", 1, 54);
        fails("night 99;", 1, 6);
        fails("again 1[".repeat(6) + "walk 9 9;again", 2, 53);
    }

    // ---- promise 5: what it answers

    @Says(promise = 5, value = "how many STEPS were done (agains not counted, nor REFUSED ones);")
    private static void howManyStepsWereDone() {
        EvenFinders x = Check.in("places 2;road 0 1 1;finder 0;thing 1 5;");
        stands(x, "find 0 0;", 0, 1);
        stands(x, "again 3[];", 0, 0);
        stands(x, "again 3[night;find 0 0;];", 3, 3);
        stands(x, "find 0 0;walk 0 0;find 0 0;find 0 0;lose 0 0;lose 0 0;night;", 4, 3);
    }

    @Says(promise = 5, value = "or the FAULT less 10 (none is);")
    private static void noneIsDoneBehindAFault() {
        fails("night;night;x", 1, 12);
        fails("night;walk 0 9;", 2, 13);
        fails("night;" + "again 1[".repeat(7), 3, 54);
        // Those STEPS that a faulty WORK REFUSED are none: the latest WORK is that ahead of it.
        EvenFinders x = Drain.full();
        Check.is("REFUSED by the latest WORK", x.told(10), 1);
        Check.is("a FAULT", Texts.read(x, "work", "find 0 2;find 0 2;x"), -9);
        Check.is("REFUSED by the latest WORK", x.told(10), 1);
        Check.is("WORKS", x.count(2), 3);
    }

    @Says(promise = 5, value = {"-20 ahead of that (nothing is read, there is no FAULT, the TAPE is empty then):",
        "16 WORKS are there that were not undone."})
    private static void sixteenWorks() {
        EvenFinders x = sixteen();
        Texts.read(x, "law", "1+");
        Check.is("a FAULT", x.fault(), 2);
        Check.is("REFUSED", x.told(10), 1);
        Check.feed(x, "xyz");
        Check.wrong("no such length", () -> x.work(21));
        Check.is("the TAPE stays then", x.count(1), 20);
        Check.is("a faulty text is not read", x.work(3), -20);
        Check.is("there is no FAULT", x.fault(), -1);
        Check.is("the TAPE is empty", x.count(1), 0);
        Check.is("REFUSED", x.told(10), 1);
        Check.is("a good text is not done", Texts.read(x, "work", "night;"), -20);
        Check.is("nor one of nothing", Texts.read(x, "work", ""), -20);
        Check.is("WORKS", x.count(2), 16);
        Check.is("status(0)", x.status(0), 0);
        Check.is("status(1)", x.status(1), 1);
        Check.same("nothing else is changed", Drain.of(x), Drain.of(sixteen()));
        EvenFinders y = sixteen();
        Check.is("undone", y.undo(), 15);
        stands(y, "night;", 1, 0);
        Check.is("16 again", Texts.read(y, "work", "night;"), -20);
        EvenFinders z = new EvenFinders();
        z.image();
        for (int i = 0; i < 16; i++) {
            Check.work(z, "night;");
        }
        Check.is("16", Texts.read(z, "work", "night;"), -20);
        Check.is("restore", z.restore(), 0);
        stands(z, "night;", 1, 0);
        Check.is("a TOWN has none", Texts.read(z, "town", ""), 0);
        stands(z, "night;", 1, 0);
    }

    private static EvenFinders sixteen() {
        EvenFinders x = Check.in("places 1;finder 0;thing 0 5;");
        for (int i = 1; i <= 16; i++) {
            stands(x, "night;lose 0 0;", 1, 1);
            Check.is("WORKS", x.count(2), i);
        }
        return x;
    }

    // ---- STEPS

    @Says(promise = 5, value = "It is DAY 0 at first, nobody owes, found, has walked this DAY.")
    private static void atFirst() {
        EvenFinders x = Drain.full();
        Texts.stands("town", x, "places 2;finder 1;finder 0;own 0 5;thing 1 6;road 0 1 1;", 2);
        Check.is("DAY", x.told(4), 0);
        Check.is("EVEN", x.told(6), 3);
        Check.is("SHAMED", x.told(11), 0);
        for (int finder = 0; finder < 2; finder++) {
            for (int what : new int[] {1, 4, 5, 6}) {
                Check.is("finder " + finder + " " + what, x.finder(finder, what), 0);
            }
        }
    }

    @Says(promise = 5, value = "OWES may be below 0 (credit).")
    private static void credit() {
        EvenFinders x = stands(Check.in("places 1;finder 0;own 0 7;thing 0 9;"), "slip 0 0;", 1, 0);
        Check.is("OWES", x.finder(0, 1), -7);
        stands(x, "find 0 1;", 1, 0);
        Check.is("OWES", x.finder(0, 1), 2);
    }

    @Says(promise = 5, value = "STEPS are done in order; one that can't be done is REFUSED, and changes nothing;")
    private static void inOrder() {
        String town = "places 3;road 0 1 1;road 1 2 1;finder 0;thing 2 5;own 0 9;";
        EvenFinders x = stands(Check.in(town), "walk 0 0;walk 0 1;find 0 0;lose 0 1;", 4, 0);
        Check.is("PLACE", x.finder(0, 0), 2);
        Check.is("holds", x.finder(0, 2), 1);
        EvenFinders y = stands(Check.in(town), "lose 0 1;find 0 0;walk 0 1;walk 0 0;", 1, 3);
        Check.is("PLACE", y.finder(0, 0), 1);
        Check.is("holds", y.finder(0, 2), 2);
        isRefused(town, "worth", "walk 0 0;", "find 0 0;");
    }

    @Says(promise = 5, value = {"200 STEPS at most are begun by one WORK (an again, too, each time it is come to; REFUSED ones, too),",
        "what would come behind is left out."})
    private static void twoHundredSteps() {
        String again = "again 30[" + SIX_NIGHTS + "];";
        stands(new EvenFinders(), again, 180, 0);
        stands(new EvenFinders(), again + "again 17[night;];night;", 198, 0);
        stands(new EvenFinders(), again + "again 17[night;];night;night;", 198, 0);
        stands(new EvenFinders(), again + "again 18[night;];night;", 198, 0);
        stands(new EvenFinders(), again + "again 19[night;];night;", 198, 0);
        // The 200th is an again: nothing of it is done. The 199th: one STEP.
        stands(new EvenFinders(), again + "again 17[night;];again 5[night;];night;", 197, 0);
        stands(new EvenFinders(), again + "again 16[night;];again 5[night;];night;", 197, 0);
        // An again within counts each time: 1, 28 times 7, then an again and 2 nights.
        stands(new EvenFinders(), "again 30[again 6[night;];];night;", 28 * 6 + 2, 0);
        // Ones that are never done count, too: 1, 30 times 6, 1, then 18 nights.
        stands(new EvenFinders(), "again 30[" + "again 0[];".repeat(6) + "];again 30[night;];", 18, 0);
        stands(new EvenFinders(), "again 30[" + "again 9[];".repeat(6) + "];again 30[night;];", 18, 0);
        EvenFinders x = Check.in("places 1;finder 0;own 0 4;");
        stands(x, "again 30[" + "lose 0 0;".repeat(6) + "];again 30[night;];", 18, 180);
        // What is left out is not REFUSED.
        stands(x, "again 30[" + "lose 0 0;".repeat(6) + "];again 17[night;];lose 0 0;lose 0 0;", 17, 181);
        stands(x, "again 30[again 30[lose 0 0;];];", 0, 200 - 1 - 7);
        // Each WORK has 200 of its own.
        Check.is("DAY", x.told(4), 35);
        stands(x, NIGHTS_198, 198, 0);
        stands(x, "again 30[" + SIX_NIGHTS + "];", 400 - 35 - 198, 180 - (400 - 35 - 198));
    }

    @Says(promise = 5, value = "walk (REFUSED, if A is not at an end of R, or would have walked more than 24 this DAY):")
    private static void walksThatAreRefused() {
        String town = "places 4;road 0 1 8;road 1 0 9;road 1 2 7;road 0 1 1;finder 0;finder 2;own 0 3;";
        isRefused(town, "worth", "", "walk 0 2;");
        isRefused(town, "worth", "", "walk 1 0;");
        isRefused(town, "worth", "walk 0 0;walk 0 0;", "walk 0 2;");
        // 24 can be walked, 25 can't.
        Check.is("24", stands(Check.in(town), "walk 0 0;walk 0 0;walk 0 0;", 3, 0).finder(0, 4), 24);
        isRefused(town, "worth", "walk 0 0;walk 0 0;", "walk 0 1;");
        isRefused(town, "worth", "walk 0 0;walk 0 0;walk 0 0;", "walk 0 3;");
        isRefused(town, "worth", "walk 0 1;walk 0 1;walk 0 3;walk 0 3;walk 0 3;walk 0 3;walk 0 3;walk 0 3;", "walk 0 3;");
        // Another FINDER's way, and another DAY's, does not count.
        EvenFinders x = stands(Check.in(town), "walk 0 0;walk 0 0;walk 0 0;walk 1 2;night;walk 0 1;walk 0 1;", 7, 0);
        Check.is("walked", x.finder(0, 4), 18);
        Check.is("walked", x.finder(1, 4), 0);
    }

    @Says(promise = 5, value = "A is at the other end, has walked LENGTH more this DAY.")
    private static void walksThatAreDone() {
        EvenFinders x = Check.in("places 4;road 0 3 9;road 3 0 1;finder 0;finder 0;own 0 3;");
        stands(x, "walk 0 0;", 1, 0);
        Check.is("from A to B", x.finder(0, 0), 3);
        Check.is("walked", x.finder(0, 4), 9);
        Check.is("what it holds", x.thing(0, 1), 3);
        stands(x, "walk 0 0;", 1, 0);
        Check.is("from B to A", x.finder(0, 0), 0);
        Check.is("walked", x.finder(0, 4), 18);
        stands(x, "walk 0 1;", 1, 0);
        Check.is("from B to A", x.finder(0, 0), 3);
        Check.is("walked", x.finder(0, 4), 19);
        Check.is("the other one", x.finder(1, 0), 0);
        Check.is("the other one", x.finder(1, 4), 0);
    }

    @Says(promise = 5, value = "find (REFUSED, if T does not lie at the PLACE of A, or A OWES more than 0):")
    private static void findsThatAreRefused() {
        String town = "places 2;road 0 1 1;finder 0;finder 0;thing 0 1;thing 1 6;own 0 2;own 1 8;thing 0 9;";
        isRefused(town, "worth", "", "find 0 1;");
        isRefused(town, "worth", "", "find 0 2;");
        isRefused(town, "worth", "", "find 0 3;");
        isRefused(town, "worth", "find 1 4;", "find 0 4;");
        // OWES 1 and more, then 0, then -1 and 0.
        isRefused(town, "worth", "find 0 0;", "find 0 4;");
        isRefused(town, "1", "find 0 4;", "find 0 0;");
        isRefused(town, "99", "find 0 4;", "find 0 0;");
        stands(ready(town, "0", "find 0 4;"), "find 0 0;", 1, 0);
        EvenFinders x = stands(ready(town, "1", "slip 0 2;find 0 4;"), "", 0, 0);
        Check.is("OWES", x.finder(0, 1), -1);
        Check.is("OWES", stands(x, "find 0 0;", 1, 0).finder(0, 1), 0);
        Check.is("OWES", stands(x, "find 0 2;", 1, 0).finder(0, 1), 1);
        // Who OWES 0 once more can find again, what it lost too.
        stands(ready(town, "worth", "find 0 0;lose 0 0;"), "find 0 0;lose 0 2;find 0 2;lose 0 2;find 0 4;", 5, 0);
    }

    @Says(promise = 5, value = "A holds T, OWES more by DUTY, as it is ahead, has found once more.")
    private static void findsThatAreDone() {
        EvenFinders x = Check.in("places 1;finder 0;finder 0;thing 0 1;thing 0 2;thing 0 4;own 0 8;own 1 8;");
        Check.law(x, "lying*10+held*3+finds");
        stands(x, "slip 0 3;", 1, 0);
        Check.is("OWES", x.finder(0, 1), -8);
        stands(x, "find 0 1;", 1, 0);
        Check.is("4 lay there, it held nothing, found nothing", x.finder(0, 1), 32);
        Check.is("who holds it", x.thing(1, 2), 0);
        Check.is("lies", x.place(0, 0), 0b1101);
        Check.is("found", x.finder(0, 5), 1);
        Check.is("the other one", x.finder(1, 5), 0);
        stands(x, "find 1 0;", 1, 0);
        Check.is("3 lay there, it held one", x.finder(1, 1), 33);
        EvenFinders y = Check.in("places 1;finder 0;thing 0 1;own 0 8;");
        Check.law(y, "owes+10");
        stands(y, "slip 0 1;find 0 0;", 2, 0);
        Check.is("OWES as it was ahead", y.finder(0, 1), -8 + 2);
    }

    @Says(promise = 5, value = "lose (REFUSED, if A does not hold T, or OWES 0 or less):")
    private static void losesThatAreRefused() {
        String town = "places 1;finder 0;finder 0;thing 0 1;thing 0 6;own 0 2;own 1 8;own 0 1;";
        isRefused(town, "worth", "find 0 0;", "lose 0 1;");
        isRefused(town, "worth", "find 0 0;", "lose 0 3;");
        // OWES 0, -1 and 1.
        isRefused(town, "worth", "", "lose 0 2;");
        isRefused(town, "0", "find 0 0;", "lose 0 0;");
        isRefused(town, "worth", "slip 0 4;", "lose 0 2;");
        isRefused(town, "worth", "find 0 0;lose 0 2;", "lose 0 0;");
        stands(ready(town, "1", "find 0 0;"), "lose 0 2;", 1, 0);
        stands(ready(town, "2", "slip 0 4;find 0 0;"), "lose 0 2;", 1, 0);
    }

    @Says(promise = 5, value = "T lies at the PLACE of A; it OWES less by WORTH of T, but 0 at the least.")
    private static void losesThatAreDone() {
        int[] owes = {6, 5, 4, 1};
        for (int duty : owes) {
            EvenFinders x = Check.in("places 2;road 0 1 1;finder 0;finder 0;thing 0 9;own 0 5;");
            Check.law(x, Integer.toString(duty));
            stands(x, "find 0 0;walk 0 0;lose 0 1;", 3, 0);
            Check.is("OWES of " + duty, x.finder(0, 1), Math.max(0, duty - 5));
            Check.is("where it lies", x.thing(1, 1), 1);
            Check.is("who holds it", x.thing(1, 2), -1);
            Check.is("lies there", x.place(1, 0), 2);
            Check.is("found", x.finder(0, 5), 1);
        }
    }

    @Says(promise = 5, value = "slip (REFUSED, if A does not hold T):")
    private static void slipsThatAreRefused() {
        String town = "places 1;finder 0;finder 0;thing 0 1;own 0 2;own 1 8;";
        isRefused(town, "worth", "", "slip 0 0;");
        isRefused(town, "worth", "", "slip 0 2;");
        isRefused(town, "worth", "slip 0 1;", "slip 0 1;");
        stands(ready(town, "worth", "find 0 0;"), "slip 0 1;slip 0 0;", 2, 0);
    }

    @Says(promise = 5, value = "T lies there; it OWES less by WORTH of T (as far as 99 below 0).")
    private static void slipsThatAreDone() {
        EvenFinders x = Check.in("places 2;road 0 1 1;finder 0;own 0 60;own 0 38;own 0 1;own 0 1;own 0 60;thing 1 30;");
        stands(x, "slip 0 0;slip 0 1;", 2, 0);
        Check.is("OWES", x.finder(0, 1), -98);
        stands(x, "slip 0 2;", 1, 0);
        Check.is("OWES", x.finder(0, 1), -99);
        stands(x, "walk 0 0;slip 0 3;", 2, 0);
        Check.is("OWES no less", x.finder(0, 1), -99);
        Check.is("it lies there", x.thing(3, 1), 1);
        Check.is("nobody holds it", x.thing(3, 2), -1);
        stands(x, "find 0 5;slip 0 4;", 2, 0);
        Check.is("69 below, then 60 more", x.finder(0, 1), -99);
        EvenFinders y = Check.in("places 1;finder 0;thing 0 5;own 0 4;own 0 1;own 0 3;");
        stands(y, "find 0 0;slip 0 1;", 2, 0);
        Check.is("OWES", y.finder(0, 1), 1);
        stands(y, "slip 0 2;", 1, 0);
        Check.is("EVEN", y.finder(0, 1), 0);
        stands(y, "slip 0 3;", 1, 0);
        Check.is("credit", y.finder(0, 1), -3);
    }

    @Says(promise = 5, value = "night (REFUSED from DAY 400 on):")
    private static void nightsThatAreRefused() {
        EvenFinders x = dayOf(Check.in("places 2;road 0 1 5;finder 0;thing 0 5;own 0 4;"), 399);
        stands(x, "night;", 1, 0);
        Check.is("DAY", x.told(4), 400);
        stands(x, "find 0 0;walk 0 0;", 2, 0);
        stands(x, "night;", 0, 1);
        stands(x, "night;night;", 0, 2);
        Check.is("DAY", x.told(4), 400);
        Check.is("not SHAMED", x.told(11), 0);
        Check.is("holds both", x.finder(0, 2), 3);
        Check.is("walked", x.finder(0, 4), 5);
        Check.is("undone", x.undo() >= 0 ? 1 : 0, 1);
        Check.is("DAY", x.told(4), 400);
    }

    @Says(promise = 5, value = {"who OWES more than 0 is SHAMED once more,", "(what it OWES stays); nobody has walked; DAY is one more."})
    private static void whoIsShamed() {
        EvenFinders x = Check.in("places 2;road 0 1 3;finder 0;finder 0;finder 0;finder 0;thing 0 1;thing 0 1;own 2 1;own 3 60;thing 0 60;");
        Check.law(x, "worth");
        // OWES 1, 0, -1, and 60 behind a credit of 60.
        stands(x, "find 0 0;slip 2 2;slip 3 3;find 3 4;walk 0 0;walk 1 0;walk 2 0;", 7, 0);
        Check.is("OWES 0 by credit", x.finder(3, 1), 0);
        stands(x, "night;", 1, 0);
        int[] shamed = {1, 0, 0, 0};
        int[] owes = {1, 0, -1, 0};
        for (int finder = 0; finder < 4; finder++) {
            Check.is("SHAMED " + finder, x.finder(finder, 6), shamed[finder]);
            Check.is("OWES " + finder, x.finder(finder, 1), owes[finder]);
            Check.is("walked " + finder, x.finder(finder, 4), 0);
        }
        Check.is("who is EVEN keeps what it holds", x.finder(3, 2), 0b10000);
        Check.is("DAY", x.told(4), 1);
        stands(x, "night;night;", 2, 0);
        Check.is("SHAMED", x.finder(0, 6), 3);
        Check.is("OWES", x.finder(0, 1), 1);
        Check.is("DAY", x.told(4), 3);
    }

    @Says(promise = 5, value = {"and of what it holds the THING of least WORTH, of alike ones the first, lies at its PLACE then",
        "(if it holds any),"})
    private static void whatANightTakes() {
        EvenFinders x = Check.in("places 2;road 0 1 3;finder 0;own 0 5;own 0 4;own 0 4;thing 0 60;own 0 60;");
        stands(x, "find 0 3;walk 0 0;night;", 3, 0);
        Check.is("the first of 4 and 4", x.finder(0, 2), 0b11101);
        Check.is("where it is", x.thing(1, 1), 1);
        Check.is("who holds it", x.thing(1, 2), -1);
        int[] holds = {0b11001, 0b11000, 0b10000, 0, 0};
        for (int held : holds) {
            stands(x, "night;", 1, 0);
            Check.is("holds", x.finder(0, 2), held);
        }
        Check.is("SHAMED all the same", x.finder(0, 6), 6);
        Check.is("all lies there", x.place(1, 0), 31);
    }

    /** The last FINDER, ROAD, THING and PLACE of a full TOWN: nobody else is touched. */
    @Says(promise = 5, value = "STEPS are done in order;")
    private static void theLastOfAll() {
        EvenFinders x = Check.in(FULLEST);
        Check.law(x, "worth+finds");
        stands(x, "walk 5 11;find 5 9;walk 5 11;", 3, 0);
        finder(x, 5, 7, 9, 0b1100000000, 17, 2, 1, 0);
        finder(x, 0, 1, 0, 0b0000000001, 1, 0, 0, 0);
        stands(x, "lose 5 8;", 1, 0);
        finder(x, 5, 7, 1, 0b1000000000, 9, 2, 1, 0);
        Check.is("where it lies", x.thing(8, 1), 7);
        stands(x, "night;", 1, 0);
        finder(x, 5, 7, 1, 0, 0, 0, 1, 1);
        stands(x, "slip 4 7;find 4 7;slip 0 0;find 0 0;", 4, 0);
        stands(x, "again 2[night;];", 2, 0);
        finder(x, 0, 1, 0, 0b0000000001, 1, 0, 1, 0);
        for (int finder = 1; finder < 4; finder++) {
            finder(x, finder, finder + 1, 0, 1 << finder, finder + 1, 0, 0, 0);
        }
        finder(x, 4, 5, 0, 0b0010010000, 12, 0, 1, 0);
        finder(x, 5, 7, 1, 0, 0, 0, 1, 3);
        Check.is("SHAMED of all", x.told(11), 3);
        int[] places = {1, 2, 3, 4, 5, 6, 6, 5, 7, 7};
        for (int thing = 0; thing < 10; thing++) {
            Check.is("where THING " + thing + " is", x.thing(thing, 1), places[thing]);
        }
    }

    private static void finder(EvenFinders x, int finder, int... due) {
        for (int what = 0; what < due.length; what++) {
            Check.is("finder " + finder + " " + what, x.finder(finder, what), due[what]);
        }
    }

    // ---- promise 8

    @Says(promise = 8, value = "The latest WORK that was done is undone: how many are left;")
    private static void latestWorkIsUndone() {
        EvenFinders x = Check.in("places 2;road 0 1 3;finder 0;thing 0 5;own 0 4;");
        String[] works = {"walk 0 0;walk 0 0;", "find 0 0;find 0 0;", "", "night;", "slip 0 1;slip 0 0;"};
        String[] states = new String[works.length];
        for (int i = 0; i < works.length; i++) {
            EvenFinders y = Check.in("places 2;road 0 1 3;finder 0;thing 0 5;own 0 4;");
            for (int j = 0; j < i; j++) {
                Check.work(y, works[j]);
            }
            y.image();
            y.restore();
            states[i] = Drain.of(y);
            Check.work(x, works[i]);
        }
        Check.is("faulty WORK is none", Texts.read(x, "work", "x"), -9);
        for (int i = works.length - 1; i >= 0; i--) {
            EvenFinders y = Check.in("places 2;road 0 1 3;finder 0;thing 0 5;own 0 4;");
            for (String work : works) {
                Check.work(y, work);
            }
            for (int j = works.length - 1; j >= i; j--) {
                Check.is("left", y.undo(), j);
            }
            Check.is("REFUSED", y.told(10), 0);
            Check.same("undone down to " + i, Drain.of(y), states[i]);
        }
        Check.is("undo", x.undo(), 4);
        Check.is("WORKS", x.count(2), 4);
        // The LAW, the BOOK and the TAPE are not WORK's.
        Check.law(x, "9");
        Check.book(x, "0 1;");
        Check.feed(x, "x");
        Check.is("undo", x.undo(), 3);
        Check.is("LAW", x.duty(0, 0), 9);
        Check.is("lines", x.told(9), 1);
        Check.is("the TAPE", x.count(1), 20);
    }

    @Says(promise = 8, value = "-1: there is none.")
    private static void noWorkToUndo() {
        EvenFinders x = new EvenFinders();
        Check.is("undo", x.undo(), -1);
        Check.work(x, "night;");
        Check.is("undo", x.undo(), 0);
        Check.is("undo", x.undo(), -1);
        Check.is("undo", x.undo(), -1);
        Check.is("DAY", x.told(4), 0);
        Check.is("status(0)", x.status(0), 0);
        Check.is("status(1)", x.status(1), 0);
        EvenFinders y = new EvenFinders();
        for (int i = 0; i < 16; i++) {
            Check.work(y, "night;");
        }
        for (int i = 15; i >= 0; i--) {
            Check.is("undo", y.undo(), i);
            Check.is("DAY", y.told(4), i);
        }
        Check.is("undo", y.undo(), -1);
        EvenFinders z = Drain.full();
        for (int i = 2; i >= 0; i--) {
            Check.is("undo", z.undo(), i);
        }
        Check.is("undo", z.undo(), -1);
        Check.is("IMAGES stay", z.count(0), 2);
    }
}
