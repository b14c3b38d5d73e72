/** Promises 38 to 43: YEARS by SEEDS, IMAGES, and what is counted. */
public final class YearsTest {
    private static final String TOWN = "places 4;road 0 1 3;road 1 2 4;road 2 3 5;road 3 0 6;road 0 2 9;"
            + "finder 0;finder 2;finder 3;thing 1 9;thing 2 4;thing 3 30;thing 0 2;own 0 7;own 1 12;";

    public static void main(String[] args) {
        oneDayByHand();
        withoutDraws();
        spans();
        refusals();
        images();
        counts();
        Check.end("YearsTest");
    }

    private static int seed;

    private static int draw(int by) {
        seed = seed * 1103515245 + 12345;
        return (seed >>> 16 & 32767) % by;
    }

    /** A DAY by the same DRAWS, but done by WORK: STEPS that cannot be done are REFUSED there. */
    private static void oneDayByHand() {
        for (int start = 0; start < 200; start++) {
            int q = start % 17;
            EvenFinders x = Check.in(TOWN);
            EvenFinders y = Check.in(TOWN);
            seed = start * 7919 - 500000;
            int first = seed;
            int finds = 0;
            for (int time = 0; time < 3; time++) {
                finds += oneTime(y, q);
            }
            Check.work(y, "night;");
            Check.is("finds of " + first, x.year(first, q, 1, 0), finds);
            Check.is("held of " + first, x.year(first, q, 1, 1), y.told(5));
            Check.is("shamed of " + first, x.year(first, q, 1, 2), y.told(11));
            Check.is("even of " + first, x.year(first, q, 1, 3), y.told(6));
            Check.is("nothing stays changed", x.told(4), 0);
            Check.is("nothing stays changed", x.told(5), 0b110000);
        }
    }

    private static int oneTime(EvenFinders y, int q) {
        int finder = draw(3);
        int road = draw(5);
        int thing = draw(6);
        Check.work(y, "walk " + finder + " " + road + ";");
        boolean found = y.can(finder, thing);
        Check.work(y, (found ? "find " : "lose ") + finder + " " + thing + ";");
        if (draw(16) < q) {
            Check.work(y, "slip " + finder + " " + thing + ";");
        }
        return found ? 1 : 0;
    }

    private static void withoutDraws() {
        EvenFinders x = Check.in("places 1;finder 0;own 0 9;thing 0 20;own 0 5;");
        Check.work(x, "find 0 1;");
        Check.is("no roads: no finds", x.year(5, 16, 96, 0), 0);
        Check.is("but nights", x.year(5, 16, 2, 1), 0b010);
        Check.is("but nights", x.year(5, 16, 96, 1), 0);
        Check.is("but shame", x.year(5, 16, 96, 2), 96);
        Check.is("owing", x.year(5, 16, 96, 3), 0);
        EvenFinders y = Check.in("places 2;road 0 1 1;thing 0 4;");
        Check.is("no finders", y.year(5, 16, 96, 1), 0);
        EvenFinders z = Check.in("places 2;road 0 1 1;finder 0;");
        Check.is("no things", z.year(5, 16, 96, 3), 1);
        Check.is("no things", z.span(5, 20, 16, 96, 2, 0), 20);
    }

    private static void spans() {
        EvenFinders x = Check.in(TOWN);
        Check.law(x, "worth/2");
        Check.work(x, "walk 0 0;find 0 0;night;");
        int fewest = Integer.MAX_VALUE;
        int most = 0;
        int[] even = new int[3];
        for (int i = 0; i < 20; i++) {
            int from = Integer.MAX_VALUE - 5;
            int finds = x.year(from + i, 4, 9, 0);
            fewest = Math.min(fewest, finds);
            most = Math.max(most, finds);
            for (int finder = 0; finder < 3; finder++) {
                even[finder] += x.year(from + i, 4, 9, 3) >> finder & 1;
            }
        }
        Check.is("fewest", x.span(Integer.MAX_VALUE - 5, 20, 4, 9, 0, 0), fewest);
        Check.is("most", x.span(Integer.MAX_VALUE - 5, 20, 4, 9, 1, 2), most);
        for (int finder = 0; finder < 3; finder++) {
            Check.is("even", x.span(Integer.MAX_VALUE - 5, 20, 4, 9, 2, finder), even[finder]);
        }
        Check.is("one", x.span(77, 1, 16, 96, 0, 0), x.year(77, 16, 96, 0));
        Check.is("fewest is less than most here", fewest < most ? 1 : 0, 1);
    }

    private static void refusals() {
        EvenFinders x = Check.in(TOWN);
        int[][] years = {{-1, 1, 0}, {17, 1, 0}, {0, 0, 0}, {0, 97, 0}, {0, 1, -1}, {0, 1, 4}};
        for (int[] row : years) {
            Check.wrong("year", () -> x.year(1, row[0], row[1], row[2]));
        }
        int[][] spans = {{0, 0, 1, 0, 0}, {21, 0, 1, 0, 0}, {1, -1, 1, 0, 0}, {1, 17, 1, 0, 0}, {1, 0, 0, 0, 0},
            {1, 0, 97, 0, 0}, {1, 0, 1, -1, 0}, {1, 0, 1, 3, 0}, {1, 0, 1, 0, 3}, {1, 0, 1, 1, -1}, {1, 0, 1, 2, 3}};
        for (int[] row : spans) {
            Check.wrong("span", () -> x.span(1, row[0], row[1], row[2], row[3], row[4]));
        }
        Check.is("status(0)", x.status(0), 0);
        Check.is("status(1)", x.status(1), years.length + spans.length);
    }

    private static void images() {
        EvenFinders x = Check.in(TOWN);
        Check.work(x, "night;");
        Check.is("image", x.image(), 1);
        Check.work(x, "walk 0 0;find 0 0;find 0 0;");
        Check.is("refused", x.told(10), 1);
        Check.is("image", x.image(), 2);
        Check.is("an image changes nothing", x.told(10), 1);
        Check.is("undo", x.undo(), 1);
        Check.is("undo", x.undo(), 0);
        Check.is("image", x.image(), 3);
        Check.is("no fourth", x.image(), -1);
        Check.is("count", x.count(0), 3);
        Check.work(x, "night;night;");
        Check.law(x, "7");
        Check.book(x, "0 1;");
        Check.feed(x, "left on the tape");
        Check.unknown("refused call", () -> x.place(9, 0));
        Check.is("restore", x.restore(), 2);
        Check.is("day", x.told(4), 0);
        Check.is("works", x.count(2), 0);
        Check.is("restore", x.restore(), 1);
        Check.is("refused behind restore", x.told(10), 0);
        Check.is("day", x.told(4), 1);
        Check.is("owes", x.finder(0, 1), 9);
        Check.is("works", x.count(2), 2);
        Check.is("works of the image can be undone", x.undo(), 1);
        Check.is("owes", x.finder(0, 1), 0);
        Check.is("place", x.finder(0, 0), 0);
        Check.is("restore", x.restore(), 0);
        Check.is("day", x.told(4), 1);
        Check.is("works", x.count(2), 1);
        Check.is("none left", x.restore(), -1);
        Check.is("the law stays", x.duty(0, 0), 7);
        Check.is("the book stays", x.told(9), 1);
        Check.is("the tape stays", x.count(1), 20);
        Check.is("no image keeps status", x.status(0), 1);
        Check.is("a text empties the tape", x.book(0), 0);
        Check.work(x, "walk 0 1;");
        Check.is("refused", x.told(10), 1);
        Check.is("none left", x.restore(), -1);
        Check.is("nothing was restored", x.told(10), 1);
    }

    private static void counts() {
        EvenFinders x = Check.in(TOWN);
        Check.is("count", x.count(3), -1);
        Check.is("count", x.count(-1), -1);
        Check.is("status", x.status(2), -1);
        Check.is("status", x.status(-1), -1);
        x.feed(0, 0, 0, 0, 0);
        Check.is("tape", x.count(1), 20);
        Check.wrong("told", () -> x.told(12));
        Check.unknown("place", () -> x.place(4, 99));
        Check.is("status(0)", x.status(0), 1);
        Check.is("status(1)", x.status(1), 1);
        Check.town(x, "");
        Check.is("a new town keeps status", x.status(0), 1);
        Check.is("a new town keeps status", x.status(1), 1);
    }
}
