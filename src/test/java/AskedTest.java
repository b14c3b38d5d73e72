/** Promises 18 to 37: what is asked of ways, of what is held, of the BOOK, of pins and of two at one find. */
public final class AskedTest {
    public static void main(String[] args) {
        ways();
        noWays();
        rounds();
        meets();
        reaches();
        settles();
        parts();
        enough();
        sixpences();
        fits();
        looks();
        pins();
        takes();
        greatestAndDeepest();
        emptyAndSound();
        refusals();
        Check.end("AskedTest");
    }

    // 0 -4- 1 -3- 2, 0 -9- 2, 2 -9- 3 -9- 4, and 5 alone; a second, shorter road from 3 to 4.
    private static final String WAYS = "places 6;road 0 1 4;road 1 2 3;road 0 2 9;road 2 3 9;road 3 4 9;road 4 3 8;";

    private static void ways() {
        EvenFinders x = Check.in(WAYS + "finder 0;finder 4;thing 2 5;thing 3 5;own 0 9;thing 5 1;thing 0 1;");
        Check.is("far", x.far(0, 2), 7);
        Check.is("far", x.far(2, 0), 7);
        Check.is("far", x.far(0, 4), 24);
        Check.is("far", x.far(4, 3), 8);
        Check.is("far of one", x.far(5, 5), 0);
        Check.is("far of none", x.far(5, 0), -1);
        Check.is("way", x.way(0, 0), 7);
        Check.is("way", x.way(1, 1), 8);
        Check.is("way to what is held", x.way(0, 2), -1);
        Check.is("way to what can't be come to", x.way(0, 3), -1);
        Check.is("way to what is here", x.way(0, 4), 0);
        Check.is("near", x.near(0, 0), 4);
        Check.is("near", x.near(0, 1), 0);
        Check.is("near", x.near(1, 0), 1);
        Check.is("near", x.near(1, 1), 8);
        EvenFinders y = Check.in(WAYS + "finder 1;thing 3 1;thing 0 2;thing 0 3;");
        Check.is("the first of alike ones", y.near(0, 0), 1);
        Check.is("near", y.near(0, 1), 4);
    }

    private static void noWays() {
        EvenFinders x = Check.in("places 2;finder 0;own 0 4;");
        Check.is("nothing lies", x.near(0, 0), -1);
        Check.is("nothing lies", x.near(0, 1), -1);
        Check.is("nothing lies", x.round(0), 0);
        Check.is("nothing lies", x.reach(0), 0);
        Check.is("nothing lies", x.greatest(0), -1);
        Check.is("nothing lies", x.greatest(1), -1);
        EvenFinders y = Check.in("places 2;finder 0;thing 1 4;");
        Check.is("out of the way", y.near(0, 0), -1);
        Check.is("out of the way", y.near(0, 1), -1);
        Check.is("out of the way", y.round(0), -1);
        Check.is("out of the way", y.reach(0), 0);
    }

    private static void rounds() {
        // From the middle of a line the short side is best done first.
        EvenFinders x = Check.in("places 8;road 0 1 9;road 1 2 9;road 2 3 9;road 3 4 2;road 4 5 2;"
                + "finder 3;thing 0 1;thing 5 1;thing 3 1;thing 5 2;");
        Check.is("line", x.round(0), 4 + 4 + 27);
        EvenFinders y = Check.in("places 8;road 0 1 1;road 1 2 1;road 2 3 1;road 3 4 1;road 4 5 1;road 5 6 1;road 6 7 1;"
                + "road 7 0 1;finder 0;finder 4;thing 1 1;thing 2 1;thing 3 1;thing 4 1;thing 5 1;thing 6 1;thing 7 1;");
        Check.is("ring", y.round(0), 7);
        Check.is("ring", y.round(1), 7);
        EvenFinders z = Check.in("places 8;road 0 1 1;road 0 2 2;road 0 3 3;road 0 4 4;road 0 5 5;road 0 6 6;road 0 7 7;"
                + "finder 0;thing 1 1;thing 2 1;thing 3 1;thing 4 1;thing 5 1;thing 6 1;thing 7 1;");
        Check.is("star, the longest last", z.round(0), 2 * 21 + 7);
        Check.work(z, "walk 0 6;");
        Check.is("from the tip", z.round(0), 7 + 2 * 15 + 6);
        EvenFinders w = Check.in("places 3;road 0 1 2;finder 0;thing 1 1;thing 2 1;");
        Check.is("one is out of the way", w.round(0), -1);
        Check.work(w, "walk 0 0;find 0 0;");
        Check.is("one is out of the way still", w.round(0), -1);
    }

    private static void meets() {
        EvenFinders x = Check.in(WAYS + "finder 0;finder 2;");
        Check.is("the first of alike ones", x.meet(0), 0);
        Check.is("together", x.meet(1), 7);
        EvenFinders y = Check.in(WAYS + "finder 0;finder 2;finder 3;finder 4;finder 2;");
        Check.is("meet", y.meet(0), 2);
        Check.is("together", y.meet(1), 7 + 9 + 17);
        EvenFinders z = Check.in(WAYS + "finder 0;finder 5;");
        Check.is("apart", z.meet(0), -1);
        Check.is("apart", z.meet(1), -1);
        EvenFinders w = Check.in(WAYS);
        Check.is("nobody", w.meet(0), -1);
        Check.is("nobody", w.meet(1), -1);
        EvenFinders v = Check.in(WAYS + "finder 5;finder 5;");
        Check.is("here", v.meet(0), 5);
        Check.is("here", v.meet(1), 0);
    }

    private static void reaches() {
        EvenFinders x = Check.in(WAYS + "finder 0;thing 0 1;thing 2 1;thing 4 1;thing 5 1;own 0 5;thing 3 1;");
        Check.is("by 24", x.reach(0), 0b100111);
        Check.work(x, "walk 0 0;walk 0 0;");
        Check.is("by 16", x.reach(0), 0b100011);
        Check.work(x, "walk 0 0;walk 0 0;");
        Check.is("by 8", x.reach(0), 0b000011);
        Check.work(x, "walk 0 0;walk 0 0;");
        Check.is("here", x.reach(0), 0b000001);
        Check.work(x, "night;");
        Check.is("by 24", x.reach(0), 0b100111);
    }

    private static void settles() {
        EvenFinders x = Check.in("places 1;finder 0;finder 0;own 0 4;own 0 5;own 0 9;own 0 6;own 0 3;own 1 2;thing 0 9;thing 0 1;");
        Check.is("owes nothing", x.settle(0), 0);
        Check.is("enough for nothing", x.enough(0), 0);
        Check.law(x, "9");
        Check.work(x, "find 0 6;");
        Check.is("one of 9, the least bits", x.settle(0), 0b000100);
        Check.is("each by itself", x.enough(0), 0b1000100);
        Check.work(x, "lose 0 4;");
        Check.is("owes", x.finder(0, 1), 6);
        Check.is("one of 6", x.settle(0), 0b001000);
        Check.is("each by itself", x.enough(0), 0b1001100);
        EvenFinders y = Check.in("places 1;finder 0;own 0 4;own 0 5;own 0 3;own 0 6;own 0 20;thing 0 1;");
        Check.law(y, "9");
        Check.work(y, "find 0 5;");
        Check.is("4 and 5 ahead of 3 and 6", y.settle(0), 0b000011);
        Check.is("by itself", y.enough(0), 0b010000);
        EvenFinders z = Check.in("places 1;finder 0;own 0 3;own 0 3;own 0 3;own 0 1;own 0 8;thing 0 1;");
        Check.law(z, "9");
        Check.work(z, "find 0 5;");
        Check.is("the fewest of as much", z.settle(0), 0b011000);
        EvenFinders w = Check.in("places 1;finder 0;own 0 3;thing 0 1;");
        Check.law(w, "9");
        Check.work(w, "find 0 1;");
        Check.is("too little", w.settle(0), -1);
        Check.is("none by itself", w.enough(0), 0);
        Check.work(w, "lose 0 0;");
        Check.is("nothing but a pin", w.settle(0), -1);
        EvenFinders v = Check.in("places 1;finder 0;thing 0 60;thing 0 60;");
        Check.law(v, "60");
        Check.work(v, "find 0 0;night;");
        Check.is("holds nothing", v.settle(0), -1);
        EvenFinders u = Check.in("places 1;finder 0;own 0 5;");
        Check.work(u, "slip 0 0;");
        Check.is("credit", u.settle(0), 0);
        Check.is("credit", u.enough(0), 0);
    }

    private static void parts() {
        EvenFinders x = Check.in("places 1;finder 0;finder 0;" + Check.times("own 0 60;", 10));
        Check.is("none of ten", x.parts(0, 0), 1);
        Check.is("one", x.parts(0, 60), 10);
        Check.is("five", x.parts(0, 300), 252);
        Check.is("ten", x.parts(0, 600), 1);
        Check.is("not so", x.parts(0, 61), 0);
        Check.is("holds nothing", x.parts(1, 0), 1);
        Check.is("holds nothing", x.parts(1, 60), 0);
        Check.wrong("below", () -> x.parts(0, -1));
        Check.wrong("above", () -> x.parts(0, 601));
        Check.unknown("unknown first", () -> x.parts(2, 601));
        EvenFinders y = Check.in("places 1;finder 0;own 0 1;thing 0 2;own 0 2;own 0 3;");
        Check.is("3, and 1 with 2", y.parts(0, 3), 2);
    }

    private static void enough() {
        EvenFinders x = Check.in("places 1;finder 0;own 0 7;own 0 8;own 0 9;thing 0 8;");
        Check.work(x, "find 0 3;");
        Check.is("8 or more", x.enough(0), 0b1110);
        Check.unknown("finder", () -> x.enough(1));
    }

    private static void sixpences() {
        EvenFinders x = Check.in("places 1;" + Check.times("finder 0;", 4) + "own 0 2;own 1 10;own 2 5;own 2 5;own 3 30;");
        int[][] due = {{0, 0, 0, 0}, {2, 2, 2, 2}, {2, 5, 5, 5}, {2, 10, 10, 10}, {2, 10, 10, 30}, {2, 10, 10, 30}};
        int[] n = {3, 8, 19, 32, 52, 999};
        for (int i = 0; i < n.length; i++) {
            for (int finder = 0; finder < 4; finder++) {
                Check.is("sixpence of " + n[i] + " to " + finder, x.sixpence(finder, 15, n[i]), due[i][finder]);
            }
        }
        Check.is("none of them", x.sixpence(0, 14, 999), 0);
        Check.is("among two", x.sixpence(3, 10, 25), 15);
        Check.is("among one", x.sixpence(3, 8, 25), 25);
        Check.is("among nobody", x.sixpence(3, 0, 25), 0);
        Check.is("of nothing", x.sixpence(3, 15, 0), 0);
        Check.wrong("bits of no finders", () -> x.sixpence(0, 16, 1));
        Check.wrong("bits of no finders", () -> x.sixpence(0, 17, 1));
        Check.wrong("bits of no finders", () -> x.sixpence(0, -1, 1));
        Check.wrong("below", () -> x.sixpence(0, 1, -1));
        Check.wrong("above", () -> x.sixpence(0, 1, 1000));
        Check.unknown("unknown first", () -> x.sixpence(4, 99, -1));
    }

    private static void fits() {
        EvenFinders x = Check.in("places 3;finder 0;thing 0 5;thing 1 7;own 0 5;");
        Check.is("no book, all pairs", x.fits(0), 9);
        Check.is("the first", x.fits(1), 0);
        Check.book(x, "0 5;1 7;2 0;");
        // As it is: thing 0 where it lies, thing 1 where it lies; thing 2 is held and would add to a place.
        Check.is("as it is", x.fits(0), 2);
        Check.is("the first", x.fits(1), 0);
        Check.book(x, "0 10;");
        Check.is("the held one lies at 0", x.fits(0), 1);
        Check.is("the first", x.fits(1), 20);
        Check.book(x, "2 5;");
        Check.is("one of 5 at 2", x.fits(0), 2);
        Check.is("the first", x.fits(1), 2);
        Check.book(x, "0 0;2 5;");
        Check.is("it came from 0", x.fits(0), 1);
        Check.is("the first", x.fits(1), 2);
        Check.book(x, "0 600;");
        Check.is("none", x.fits(0), 0);
        Check.is("none", x.fits(1), -1);
    }

    private static void looks() {
        EvenFinders x = Check.in("places 3;finder 0;thing 0 5;thing 1 7;own 0 5;");
        // By hand, the pairs of THING and PLACE by the WORTH that would lie there:
        // PLACE 0 worth 5: (0,0) (1,1) (1,2) (2,1) (2,2); 0: (0,1) (0,2); 12: (1,0); 10: (2,0).
        // PLACE 1 worth 7: (0,0) (0,2) (1,1) (2,0) (2,2); 0: (1,0) (1,2); 12: (0,1) (2,1).
        // PLACE 2 worth 0: (0,0) (0,1) (1,0) (1,1) (2,0) (2,1); 5: (0,2) (2,2); 7: (1,2).
        Check.is("place", x.look(0), 0);
        Check.is("left", x.look(1), 5);
        Check.book(x, "0 5;");
        // Left are (0,0) (1,1) (1,2) (2,1) (2,2).
        // PLACE 1: 7: (0,0) (1,1) (2,2); 0: (1,2); 12: (2,1). PLACE 2: 0: (0,0) (1,1) (2,1); 7; 5.
        Check.is("place", x.look(0), 1);
        Check.is("left", x.look(1), 3);
        Check.book(x, "0 5;1 7;");
        Check.is("the one left", x.look(0), 2);
        // (0,0) (1,1) make 0, (2,2) 5.
        Check.is("left", x.look(1), 2);
        Check.book(x, "0 5;1 7;2 0;");
        Check.is("all in lines", x.look(0), -1);
        Check.is("all in lines", x.look(1), -1);
        Check.book(x, "0 600;");
        Check.is("no pairs", x.look(0), 1);
        Check.is("no pairs", x.look(1), 0);
        EvenFinders y = new EvenFinders();
        Check.is("no places", y.look(0), -1);
        Check.is("no places", y.look(1), -1);
        EvenFinders z = Check.in("places 2;");
        Check.is("no things", z.look(0), 0);
        Check.is("no things", z.look(1), 0);
        // By WORTH: 4 and 4 are seen as the same, whichever THING it is.
        EvenFinders w = Check.in("places 2;thing 0 4;thing 0 4;");
        Check.book(w, "0 4;");
        Check.is("alike ones", w.fits(0), 2);
        Check.is("alike ones", w.look(1), 2);
    }

    private static void pins() {
        EvenFinders x = new EvenFinders();
        long[][] due = {{0, 0, 0, 0, 1}, {5, 2, 0, 0, 1}, {5, 0, 5, 0, 1}, {5, 5, 1, 1, 1}, {5, 2, 4, 1, 1},
            {4, 1, 2, 1, 2}, {5, 2, 2, 7, 10}, {20, 1, 1, 1, 20}, {20, 3, 4, 29, 57}, {20, 10, 10, 184755, 184756},
            {20, 4, 16, 4844, 4845}};
        for (long[] row : due) {
            Check.is("pins above", x.pins((int) row[0], (int) row[1], (int) row[2], 0), row[3]);
            Check.is("pins below", x.pins((int) row[0], (int) row[1], (int) row[2], 1), row[4]);
        }
        int[][] wrong = {{-1, 0, 0, 0}, {21, 0, 0, 0}, {5, -1, 0, 0}, {5, 6, 0, 0}, {5, 0, -1, 0}, {5, 0, 6, 0},
            {5, 0, 0, -1}, {5, 0, 0, 2}};
        for (int[] row : wrong) {
            Check.wrong("pins", () -> x.pins(row[0], row[1], row[2], row[3]));
        }
        Check.is("status(1)", x.status(1), wrong.length);
    }

    private static void takes() {
        EvenFinders x = new EvenFinders();
        int[][] due = {{5, 3, 2, 1, 2}, {3, 5, 1, 11, 0}, {3, 0, 3, 0, 0}, {4, 4, 3, 1, 0}, {0, 0, 4, 0, 0},
            {99, 1, 2, 1, 98}, {0, 99, 1, 11, 0}, {99, 99, 3, 1, 0}};
        for (int[] row : due) {
            for (int what = 0; what < 3; what++) {
                Check.is("takes " + row[0] + " " + row[1] + " " + what, x.takes(row[0], row[1], what), row[2 + what]);
            }
        }
        int[][] wrong = {{-1, 0, 0}, {100, 0, 0}, {0, -1, 0}, {0, 100, 0}, {0, 0, -1}, {0, 0, 3}};
        for (int[] row : wrong) {
            Check.wrong("takes", () -> x.takes(row[0], row[1], row[2]));
        }
    }

    private static void greatestAndDeepest() {
        EvenFinders x = Check.in("places 1;finder 0;finder 0;finder 0;own 0 60;thing 0 9;thing 0 20;thing 0 20;own 1 5;own 2 3;");
        Check.is("greatest", x.greatest(0), 2);
        Check.is("greatest", x.greatest(1), 20);
        Check.is("deepest", x.deepest(0), 0);
        Check.is("deepest", x.deepest(1), 0);
        Check.work(x, "slip 0 0;slip 1 4;slip 2 5;");
        Check.is("greatest", x.greatest(0), 0);
        Check.is("deepest of credit", x.deepest(0), 2);
        Check.is("deepest of credit", x.deepest(1), -3);
        Check.is("burden", x.burden(0), 0);
        Check.is("credit", x.burden(1), 68);
        Check.work(x, "find 2 0;find 1 2;");
        Check.is("deepest", x.deepest(0), 2);
        Check.is("deepest", x.deepest(1), 57);
        Check.is("burden", x.burden(0), 57 + 15);
        Check.is("credit", x.burden(1), 60);
        EvenFinders y = new EvenFinders();
        Check.is("nobody", y.deepest(0), -1);
        Check.is("nobody", y.deepest(1), 0);
        Check.is("nobody", y.burden(0), 0);
        Check.is("nobody", y.burden(1), 0);
    }

    private static void emptyAndSound() {
        EvenFinders x = Check.in("places 5;road 1 2 1;finder 1;finder 1;finder 1;thing 3 4;thing 1 5;own 1 6;own 2 5;thing 1 6;");
        Check.is("empty", x.empty(), 0b10101);
        Check.work(x, "find 0 1;find 1 4;");
        // Finder 0 holds 5 and owes 5, finder 1 holds 12 and owes 6, finder 2 holds 5 and owes nothing.
        Check.is("more", x.sound(0), 0b110);
        Check.is("as much", x.sound(1), 0b001);
        Check.is("less", x.sound(2), 0);
        Check.work(x, "walk 0 0;walk 1 0;walk 2 0;night;");
        Check.is("empty", x.empty(), 0b10011);
        Check.is("more", x.sound(0), 0b100);
        Check.is("as much", x.sound(1), 0b010);
        Check.is("less", x.sound(2), 0b001);
        Check.work(x, "slip 2 3;");
        Check.is("nothing is more than credit", x.sound(0), 0b100);
    }

    private static void refusals() {
        EvenFinders x = Check.in("places 2;finder 0;thing 1 4;");
        for (int i : new int[] {-1, 2, Integer.MIN_VALUE, Integer.MAX_VALUE}) {
            Check.unknown("far", () -> x.far(i, 0));
            Check.unknown("far", () -> x.far(0, i));
            Check.unknown("round", () -> x.round(i));
            Check.unknown("reach", () -> x.reach(i));
            Check.unknown("settle", () -> x.settle(i));
            Check.unknown("enough", () -> x.enough(i));
            Check.unknown("way", () -> x.way(i, 0));
            Check.unknown("way", () -> x.way(0, i));
            Check.unknown("near ahead of what", () -> x.near(i, i));
            Check.wrong("near", () -> x.near(0, i));
            Check.wrong("meet", () -> x.meet(i));
            Check.wrong("fits", () -> x.fits(i));
            Check.wrong("look", () -> x.look(i));
            Check.wrong("greatest", () -> x.greatest(i));
            Check.wrong("deepest", () -> x.deepest(i));
            Check.wrong("burden", () -> x.burden(i));
        }
        Check.wrong("sound", () -> x.sound(3));
        Check.wrong("sound", () -> x.sound(-1));
        Check.is("status(0)", x.status(0), 36);
        Check.is("status(1)", x.status(1), 30);
    }
}
