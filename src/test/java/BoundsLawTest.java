/** Promises 4, 14 and 15 at their bounds: a LAW, its FAULTS, and DUTY. */
public final class BoundsLawTest {
    public static void main(String[] args) {
        Bounds.run(BoundsLawTest.class);
    }

    private static EvenFinders stands(String text) {
        return Texts.stands("law", new EvenFinders(), text, 1);
    }

    private static void fails(String text, int fault, int place) {
        Texts.fails("law", text, fault, place);
    }

    /** A LAW of plain numbers, and the DUTY that comes out. */
    private static void comesOut(String law, int due) {
        Check.is("DUTY by " + law, stands(law).would(1, 0, 0, 0, 0, 0, 0, 0), due);
    }

    // ---- promise 4

    @Says(promise = 4, value = "Likewise the LAW (n to 150): 1.")
    private static void theLengthOfALaw() {
        EvenFinders x = new EvenFinders();
        Check.wrong("1 of 0", () -> x.law(1));
        Check.wrong("-1 of 0", () -> x.law(-1));
        String sum = "1+".repeat(74) + "22";
        Check.feed(x, sum + "+1+1+1+1+1");
        Check.is("the TAPE", x.count(1), 160);
        Check.wrong("151 of 160", () -> x.law(151));
        Check.wrong("160 of 160", () -> x.law(160));
        Check.wrong("161 of 160", () -> x.law(161));
        Check.wrong("-1 of 160", () -> x.law(-1));
        Check.wrong("least of 160", () -> x.law(Integer.MIN_VALUE));
        Check.wrong("most of 160", () -> x.law(Integer.MAX_VALUE));
        Check.is("the TAPE stays", x.count(1), 160);
        Check.is("no LAW", x.would(3, 0, 0, 0, 0, 0, 0, 0), 3);
        Check.is("status(0)", x.status(0), 0);
        Check.is("status(1)", x.status(1), 8);
        Check.is("150 of 160", x.law(150), 1);
        Check.is("the TAPE is empty", x.count(1), 0);
        Check.is("DUTY", x.would(3, 0, 0, 0, 0, 0, 0, 0), 96);
        Check.feed(x, "1234");
        Check.wrong("21 of 20", () -> x.law(21));
        Check.is("2 of 20", x.law(2), 1);
        Check.is("DUTY", x.would(3, 0, 0, 0, 0, 0, 0, 0), 12);
    }

    @Says(promise = 4, value = "A LAW is a text of up to 150 bytes: E, at the end nothing more;")
    private static void nothingMoreBehindALaw() {
        stands(Texts.padded("5", 150));
        stands(" ".repeat(149) + "5");
        fails("5;", 1, 1);
        fails("5 5", 1, 2);
        fails("5 worth", 1, 2);
        fails("worth5", 1, 5);
        fails("5)", 1, 1);
        fails("5]", 1, 1);
        fails("5,5", 1, 1);
        fails("5(5)", 1, 1);
        fails("(5)5", 1, 3);
        fails("(5)(5)", 1, 3);
        fails("5 least[1,2]", 1, 2);
        fails("least[1,2]least[1,2]", 1, 10);
        fails("", 1, 0);
        fails(" ", 1, 1);
        fails(" ".repeat(150), 1, 150);
        // A FAULT leaves the LAW that was there.
        EvenFinders x = stands("7");
        Check.is("a FAULT", Texts.read(x, "law", "8;"), -9);
        Check.is("DUTY", x.would(1, 0, 0, 0, 0, 0, 0, 0), 7);
    }

    @Says(promise = 4, value = "without: worth.")
    private static void withoutALaw() {
        EvenFinders x = Check.in("places 1;finder 0;thing 0 1;thing 0 60;");
        Check.is("least", x.would(1, 999, 10, 999, 10, 400, 999, 5), 1);
        Check.is("most", x.would(60, 0, 0, 0, 0, 0, 0, 0), 60);
        Check.is("THING 0", x.duty(0, 0), 1);
        Check.is("THING 1", x.duty(0, 1), 60);
    }

    @Says(promise = 4, value = "DUTY of a find: what comes out, 0 at least, 99 at most.")
    private static void leastAndMostDuty() {
        comesOut("98", 98);
        comesOut("99", 99);
        comesOut("100", 99);
        comesOut("999*999", 99);
        comesOut("1", 1);
        comesOut("0", 0);
        comesOut("0-1", 0);
        comesOut("0-999*999", 0);
        EvenFinders x = Check.in("places 1;finder 0;finder 0;thing 0 5;thing 0 6;own 1 4;");
        Texts.stands("law", x, "100-finder*200", 1);
        Check.is("duty", x.duty(0, 0), 99);
        Check.is("duty", x.duty(1, 0), 0);
        Check.is("both find", Check.work(x, "find 0 0;slip 1 2;find 1 1;"), 3);
        Check.is("OWES no more than 99", x.finder(0, 1), 99);
        Check.is("OWES no less than ahead", x.finder(1, 1), -4);
    }

    @Says(promise = 4, value = {"E: T { + or - T }. T: U { * or / or % U }.", "or \"(\" E \")\"."})
    private static void theOrderOfSigns() {
        comesOut("9-3-2", 4);
        comesOut("9-3+2", 8);
        comesOut("9-(3+2)", 4);
        comesOut("9-(3-2)", 8);
        comesOut("2+3*4", 14);
        comesOut("2*3+4", 10);
        comesOut("(2+3)*4", 20);
        comesOut("2*(3+4)", 14);
        comesOut("80/8/2", 5);
        comesOut("80/(8/2)", 20);
        comesOut("9/2*2", 8);
        comesOut("9*2/2", 9);
        comesOut("9%5*2", 8);
        comesOut("9*5%7", 3);
        comesOut("50%30%7", 6);
        comesOut("20-9%5", 16);
        comesOut("20-9/5", 19);
        comesOut("((7))", 7);
        fails("+1", 1, 0);
        fails("-1", 1, 0);
        fails("1+-1", 1, 2);
        fails("1*/1", 1, 2);
        fails("1+", 1, 2);
        fails("1*", 1, 2);
        fails("1/ ", 1, 3);
        fails("1%)", 1, 2);
        fails("()", 1, 1);
        fails("(", 1, 1);
        fails("(1", 1, 2);
        fails("(1]", 1, 2);
        fails("(1,2)", 1, 2);
        fails("(1;)", 1, 2);
        fails("[1]", 1, 0);
    }

    @Says(promise = 4, value = "U: N (0 to 999),")
    private static void numbersInALaw() {
        comesOut("0", 0);
        comesOut("999-900", 99);
        comesOut("998-900", 98);
        comesOut("000000000000999-950", 49);
        comesOut("0".repeat(148) + "7", 7);
        fails("1000", 2, 0);
        fails("01000", 2, 0);
        fails("1+1000", 2, 2);
        fails("65536", 2, 0);
        fails("4294967296", 2, 0);
        fails("18446744073709551616", 2, 0);
        fails("9".repeat(150), 2, 0);
        fails("1000+1000x", 2, 0);
        fails("9 9", 1, 2);
        fails("9.5", 1, 1);
    }

    @Says(promise = 4, value = {"\"worth\" (of the THING),", "\"owes\" (the FINDER by now),", "\"held\" (how many THINGS it holds),",
        "\"finds\" (how often it found by now),", "\"lying\" (how many THINGS lie at its PLACE),", "\"day\",",
        "\"shame\" (how often it was SHAMED by now),", "\"finder\" (its number),"})
    private static void whatALawGoesBy() {
        EvenFinders x = Check.in("places 2;road 0 1 1;finder 0;finder 0;thing 0 11;thing 0 12;thing 1 13;own 1 14;own 1 15;own 1 16;");
        Check.work(x, "find 1 0;night;night;night;");
        // FINDER 1 found 11 and owes it; the nights took 11, 14 and 15, which lie at PLACE 0 beside 12.
        String[] names = {"worth", "owes+50", "held", "finds", "lying", "day", "shame", "finder"};
        int[] one = {13, 61, 1, 1, 4, 3, 3, 1};
        int[] other = {13, 50, 0, 0, 4, 3, 0, 0};
        for (int i = 0; i < names.length; i++) {
            Texts.stands("law", x, names[i], 1);
            Check.is("duty(1, 2) by " + names[i], x.duty(1, 2), one[i]);
            Check.is("duty(0, 2) by " + names[i], x.duty(0, 2), other[i]);
        }
        Check.work(x, "walk 1 0;");
        Texts.stands("law", x, "lying", 1);
        Check.is("at its PLACE, not the THING's", x.duty(1, 0), 1);
    }

    @Says(promise = 4, value = {"\"least\" \"[\" E \",\" E \"]\",", "\"most\" \"[\" E \",\" E \"]\","})
    private static void leastAndMost() {
        comesOut("least[3,4]", 3);
        comesOut("least[4,3]", 3);
        comesOut("least[4,4]", 4);
        comesOut("most[3,4]", 4);
        comesOut("most[4,3]", 4);
        comesOut("least[0-3,0-4]+9", 5);
        comesOut("most[0-3,0-4]+9", 6);
        comesOut("least[1+2*3,most[4,5]+6]", 7);
        comesOut("most[least[9,8],least[7,6]]*2", 16);
        fails("least", 1, 5);
        fails("least 5", 1, 6);
        fails("least(1,2)", 1, 5);
        fails("least[", 1, 6);
        fails("least[]", 1, 6);
        fails("least[,2]", 1, 6);
        fails("least[1]", 1, 7);
        fails("least[1,]", 1, 8);
        fails("least[1,2", 1, 9);
        fails("least[1,2)", 1, 9);
        fails("least[1,2,3]", 1, 9);
        fails("most[1;2]", 1, 6);
        fails("most", 1, 4);
    }

    @Says(promise = 4, value = "Values are whole numbers of 32 bits that wrap;")
    private static void valuesWrap() {
        String two31 = "512*512*512*16";
        comesOut("512*512*512*32", 0);
        comesOut("512*512*512*32+7", 7);
        comesOut("512*512*512*15", 99);
        comesOut(two31, 0);
        comesOut(two31 + "-1", 99);
        comesOut("(" + two31 + "-1)/512/512/512", 15);
        comesOut("0-" + two31, 0);
        comesOut("(" + two31 + "-1)+1", 0);
        comesOut("(" + two31 + "-1)+1-1", 99);
        comesOut("(0-" + two31 + ")-1", 99);
        comesOut("least[" + two31 + ",5]+" + two31 + "+9", 9);
        comesOut("most[" + two31 + ",5]", 5);
        comesOut("999*999*999*999/999/999", clamp(999 * 999 * 999 * 999 / 999 / 999));
        // The least number by -1 is itself, and leaves nothing.
        comesOut(two31 + "/(0-1)", 0);
        comesOut(two31 + "/(0-1)-1", 99);
        comesOut(two31 + "%(0-1)+8", 8);
    }

    private static int clamp(int value) {
        return Math.max(0, Math.min(99, value));
    }

    @Says(promise = 4, value = "/ cuts, % leaves (with the sign of what is divided), by 0 both are 0.")
    private static void divisions() {
        comesOut("7/2", 3);
        comesOut("9+(0-7)/2", 6);
        comesOut("9+7/(0-2)", 6);
        comesOut("9+(0-7)/(0-2)", 12);
        comesOut("9+(0-1)/2", 9);
        comesOut("9+7%4", 12);
        comesOut("9+(0-7)%4", 6);
        comesOut("9+7%(0-4)", 12);
        comesOut("9+(0-7)%(0-4)", 6);
        comesOut("9+5/0", 9);
        comesOut("9+5%0", 9);
        comesOut("9+0/0", 9);
        comesOut("9+0%0", 9);
        comesOut("9+(0-5)/0", 9);
        comesOut("9+(0-5)%0", 9);
        comesOut("9+5/(3-3)*4", 9);
        comesOut("9/day", 0);
        comesOut("9%day+5", 5);
    }

    @Says(promise = 4, value = {"WORDS: small letters, as many as stand there;", "blanks (32) may stand ahead of all these, and at the end."})
    private static void wordsAndBlanksInALaw() {
        comesOut("  9  -  (  3  +  1  )  *  2  ", 1);
        comesOut("  least  [  9  ,  most  [  3  ,  4  ]  ]  ", 4);
        comesOut("3*2+worth", 7);
        fails("worths", 1, 0);
        fails("wort", 1, 0);
        fails("worthworth", 1, 0);
        fails("wor th", 1, 0);
        fails("Worth", 1, 0);
        fails("worthX", 1, 5);
        fails("wortha", 1, 0);
        fails("worthz", 1, 0);
        fails("days", 1, 0);
        fails("night", 1, 0);
        fails("1+mosts[1,2]", 1, 2);
        for (int other : new int[] {0, 9, 10, 13, 31, 33, 160, 255}) {
            fails("1" + (char) other + "+1", 1, 1);
            fails((char) other + "1", 1, 0);
        }
    }

    @Says(promise = 4, value = "or a 7th of ( least most again that is open at one time;")
    private static void sixAreOpen() {
        comesOut("(".repeat(6) + "7" + ")".repeat(6), 7);
        fails("(".repeat(7) + "7" + ")".repeat(7), 3, 6);
        fails("(".repeat(7), 3, 6);
        fails("(".repeat(6), 1, 6);
        fails("  (".repeat(7), 3, 20);
        comesOut("least[".repeat(6) + "7" + ",9]".repeat(6), 7);
        fails("least[".repeat(7) + "7" + ",9]".repeat(7), 3, 36);
        comesOut("most[".repeat(6) + "7" + ",1]".repeat(6), 7);
        fails("most[".repeat(6) + "most", 3, 30);
        fails("most[".repeat(6) + "(", 3, 30);
        fails("(".repeat(6) + "least x", 3, 6);
        comesOut("least[9,".repeat(6) + "7" + "]".repeat(6), 7);
        fails("least[9,".repeat(6) + "(7)" + "]".repeat(6), 3, 48);
        // What is closed is open no more.
        comesOut("(1)+(1)+(1)+(1)+(1)+(1)+(1)+(1)", 8);
        comesOut("least[1,2]+least[1,2]+least[1,2]+most[1,2]+most[1,2]+most[1,2]+(1)", 10);
        comesOut("((((((1))+(1))+(1))))", 3);
        comesOut("(((((least[1,2]+(3)+most[4,5])))))", 9);
        fails("(((((least[1,(3)])))))", 3, 13);
        comesOut("((((least[(1),(3)]))))", 1);
    }

    @Says(promise = 4, value = "of one the least.")
    private static void ofOneTheLeast() {
        fails("((((((1(", 1, 7);
        fails("((((((leasts", 1, 6);
        fails("((((((1 least[1,2]", 1, 8);
        fails("1 1000", 1, 2);
        fails("(1000", 2, 1);
        fails("((((((1000(", 2, 6);
    }

    // ---- promises 14 and 15

    @Says(promise = 14, value = "DUTY, were a FINDER to find a THING now (there or not).")
    private static void dutyThereOrNot() {
        EvenFinders x = Check.in("places 2;finder 0;finder 1;thing 0 5;thing 1 6;own 0 7;own 1 8;");
        int[] worths = {5, 6, 7, 8};
        for (int thing = 0; thing < 4; thing++) {
            Check.is("there, elsewhere, held by it, by another", x.duty(0, thing), worths[thing]);
        }
        Check.work(x, "find 0 0;");
        Check.is("it OWES, and could not", x.duty(0, 1), 6);
        Check.is("what it found", x.duty(0, 0), 5);
        Texts.stands("law", x, "owes*10+held", 1);
        Check.is("as it is now", x.duty(0, 1), 52);
        Check.unknown("FINDER 2", () -> x.duty(2, 0));
        Check.unknown("FINDER -1", () -> x.duty(-1, 0));
        Check.unknown("THING 4", () -> x.duty(0, 4));
        Check.unknown("THING -1", () -> x.duty(0, -1));
        Check.is("status(0)", x.status(0), 4);
        Check.is("status(1)", x.status(1), 0);
    }

    @Says(promise = 15, value = {"DUTY by the LAW for such worth (1 to 60), owes (-99 to 999), held (0 to 10), finds (0 to 999),",
        "lying (0 to 10), day (0 to 400), shame (0 to 999), finder (0 to 5)."})
    private static void wouldAtItsBounds() {
        // The LAW's own numbers come in by the same places: the least and the greatest of each are seen.
        would("worth", 1, 60);
        would("owes+99", 0, 99);
        would("owes-950", 0, 49);
        would("owes+98+98-100", 0, 99);
        would("held", 0, 10);
        would("finds-950", 0, 49);
        would("lying", 0, 10);
        would("day-350", 0, 50);
        would("shame-950", 0, 49);
        would("finder", 0, 5);
        EvenFinders x = stands("owes+100");
        Check.is("-99", x.would(1, -99, 0, 0, 0, 0, 0, 0), 1);
        Check.is("-50", x.would(1, -50, 0, 0, 0, 0, 0, 0), 50);
    }

    private static void would(String law, int least, int most) {
        EvenFinders x = stands(law);
        Check.is("least by " + law, x.would(1, -99, 0, 0, 0, 0, 0, 0), least);
        Check.is("most by " + law, x.would(60, 999, 10, 999, 10, 400, 999, 5), most);
    }
}
