/** All that can be told of an object, down to its last WORK and IMAGE, as one text: two alike objects give the same. */
final class Drain {
    private static final String TOWN = "places 3;road 0 1 4;road 1 2 5;finder 0;finder 1;"
            + "thing 0 5;own 1 6;thing 2 9;own 0 3;";

    /** What full() has on its TAPE when its TAPE is not empty. */
    static final String TAPE = "night;night;        ";
    static final int PLACES = 3;
    static final int ROADS = 2;
    static final int THINGS = 4;
    static final int FINDERS = 2;
    static final int UNKNOWN_CALLS = 1;
    static final int WRONG_CALLS = 2;

    private Drain() {
    }

    /** An object that has something of everything: LAW, BOOK, three WORKS, two IMAGES, REFUSED STEPS, refused calls, a FAULT. */
    static EvenFinders full() {
        EvenFinders x = Check.in(TOWN);
        Check.law(x, "shame*2+worth+day");
        Check.book(x, "0 5;2 9;");
        Check.work(x, "night;");
        Check.of(() -> x.place(PLACES, 0));
        x.image();
        Check.work(x, "find 0 0;night;");
        Check.of(() -> x.told(99));
        x.image();
        Check.work(x, "walk 0 0;find 0 2;slip 1 1;");
        Check.of(() -> x.told(-99));
        Check.law(x, "1+");
        return x;
    }

    static EvenFinders fullWithTape() {
        EvenFinders x = full();
        Check.feed(x, TAPE);
        return x;
    }

    /** Everything but fault() and status(), which the tests look at by themselves. The object is spent then. */
    static String of(EvenFinders x) {
        StringBuilder text = new StringBuilder("told");
        for (int what = 0; what <= 11; what++) {
            text.append(' ').append(x.told(what));
        }
        text.append(" counts ").append(x.count(0)).append(' ').append(x.count(1)).append(' ').append(x.count(2));
        tellTown(x, text);
        tellAsked(x, text);
        undoAll(x, text);
        for (int i = 0; i < 4; i++) {
            int left = x.restore();
            text.append(" restore ").append(left);
            if (left < 0) {
                break;
            }
            tellDay(x, text);
            undoAll(x, text);
        }
        int tape = Math.min(150, x.count(1));
        text.append(" tape ").append(x.work(tape)).append(' ').append(x.fault());
        tellDay(x, text);
        return text.toString();
    }

    private static void tellTown(EvenFinders x, StringBuilder text) {
        for (int place = 0; place < x.told(0); place++) {
            text.append(" place");
            for (int what = 0; what <= 3; what++) {
                text.append(' ').append(x.place(place, what));
            }
        }
        for (int road = 0; road < x.told(1); road++) {
            text.append(" road");
            for (int what = 0; what <= 2; what++) {
                text.append(' ').append(x.road(road, what));
            }
        }
        for (int thing = 0; thing < x.told(2); thing++) {
            text.append(" thing");
            for (int what = 0; what <= 2; what++) {
                text.append(' ').append(x.thing(thing, what));
            }
        }
        for (int finder = 0; finder < x.told(3); finder++) {
            text.append(" finder");
            for (int what = 0; what <= 6; what++) {
                text.append(' ').append(x.finder(finder, what));
            }
        }
    }

    private static void tellAsked(EvenFinders x, StringBuilder text) {
        text.append(" law ").append(x.would(1, 0, 0, 0, 0, 0, 0, 0));
        text.append(' ').append(x.would(11, -5, 3, 2, 4, 9, 7, 5));
        text.append(" book ").append(x.fits(0)).append(' ').append(x.fits(1));
        text.append(' ').append(x.look(0)).append(' ').append(x.look(1));
    }

    private static void tellDay(EvenFinders x, StringBuilder text) {
        text.append(" day ").append(x.told(4)).append(' ').append(x.told(5)).append(' ').append(x.told(8));
        text.append(' ').append(x.told(10));
        for (int finder = 0; finder < x.told(3); finder++) {
            text.append(" of");
            for (int what : new int[] {0, 1, 4, 5, 6}) {
                text.append(' ').append(x.finder(finder, what));
            }
        }
    }

    private static void undoAll(EvenFinders x, StringBuilder text) {
        for (int i = 0; i < 17; i++) {
            int left = x.undo();
            text.append(" undo ").append(left);
            if (left < 0) {
                break;
            }
            tellDay(x, text);
        }
    }
}
