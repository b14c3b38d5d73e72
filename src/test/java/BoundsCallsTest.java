import java.util.Arrays;

/**
 * Every call that takes numbers, with the least and the greatest of each and the first beyond: what is refused throws as
 * promised, is counted by status(), and changes nothing else; what is asked changes nothing at all.
 */
public final class BoundsCallsTest {
    /** A call with its numbers. */
    interface Of {
        long answer(EvenFinders x, int[] a);
    }

    /** The numbers that an argument may be, and the exception that it throws for others. */
    private record Arg(int least, int most, long refusal) {
        int[] beyond() {
            if (refusal == 0) {
                return new int[0];
            }
            return new int[] {least - 1, most + 1, Integer.MIN_VALUE, Integer.MAX_VALUE};
        }
    }

    private static final Arg PLACE = new Arg(0, Drain.PLACES - 1, Check.UNKNOWN);
    private static final Arg ROAD = new Arg(0, Drain.ROADS - 1, Check.UNKNOWN);
    private static final Arg THING = new Arg(0, Drain.THINGS - 1, Check.UNKNOWN);
    private static final Arg FINDER = new Arg(0, Drain.FINDERS - 1, Check.UNKNOWN);
    private static final Arg SEED = new Arg(Integer.MIN_VALUE, Integer.MAX_VALUE, 0);

    private static final String FULL = Drain.of(Drain.fullWithTape());

    public static void main(String[] args) {
        Bounds.run(BoundsCallsTest.class);
    }

    private static Arg to(int least, int most) {
        return new Arg(least, most, Check.WRONG);
    }

    // ---- what all of them share

    private static void asked(String name, Of call, Arg... args) {
        int[] least = new int[args.length];
        int[] most = new int[args.length];
        for (int i = 0; i < args.length; i++) {
            least[i] = args[i].least();
            most[i] = args[i].most();
        }
        answers(name, call, least);
        answers(name, call, most);
        for (int i = 0; i < args.length; i++) {
            answers(name, call, with(least, i, most[i]));
            answers(name, call, with(most, i, least[i]));
        }
        refused(name, call, least, args);
    }

    private static int[] with(int[] a, int i, int value) {
        int[] b = a.clone();
        b[i] = value;
        return b;
    }

    private static void answers(String name, Of call, int[] a) {
        EvenFinders x = Drain.fullWithTape();
        String label = name + Arrays.toString(a);
        long first = Check.of(() -> call.answer(x, a));
        Check.is(label + " is refused", first == Check.UNKNOWN || first == Check.WRONG ? 1 : 0, 0);
        Check.is(label + " once more", Check.of(() -> call.answer(x, a)), first);
        stays(label, x, 0, 0);
    }

    private static void refused(String name, Of call, int[] least, Arg[] args) {
        for (int i = 0; i < args.length; i++) {
            for (int beyond : args[i].beyond()) {
                int[] a = with(least, i, beyond);
                refuses(name, call, a, args[i].refusal());
                for (int j = 0; j < args.length; j++) {
                    for (int other : args[j].beyond()) {
                        if (j != i) {
                            boolean unknown = args[i].refusal() == Check.UNKNOWN || args[j].refusal() == Check.UNKNOWN;
                            refuses(name, call, with(a, j, other), unknown ? Check.UNKNOWN : Check.WRONG);
                        }
                    }
                }
            }
        }
    }

    private static void refuses(String name, Of call, int[] a, long refusal) {
        EvenFinders x = Drain.fullWithTape();
        String label = name + Arrays.toString(a);
        Check.is(label, Check.of(() -> call.answer(x, a)), refusal);
        stays(label, x, refusal == Check.UNKNOWN ? 1 : 0, refusal == Check.WRONG ? 1 : 0);
    }

    private static void stays(String label, EvenFinders x, int unknown, int wrong) {
        Check.is("status(0) behind " + label, x.status(0), Drain.UNKNOWN_CALLS + unknown);
        Check.is("status(1) behind " + label, x.status(1), Drain.WRONG_CALLS + wrong);
        Check.is("fault() behind " + label, x.fault(), 2);
        Check.same("all else behind " + label, Drain.of(x), FULL);
    }

    // ---- texts: only what is refused, as the others change much

    @Says(promise = 3, value = "IllegalArgumentException: n is not 0 to the TAPE's bytes (it stays).")
    private static void town() {
        refused("town", (x, a) -> x.town(a[0]), new int[1], new Arg[] {to(0, 20)});
    }

    @Says(promise = 4, value = "Likewise the LAW (n to 150): 1.")
    private static void law() {
        refused("law", (x, a) -> x.law(a[0]), new int[1], new Arg[] {to(0, 20)});
    }

    @Says(promise = 5, value = "Likewise WORK (n to 150), which is done:")
    private static void work() {
        refused("work", (x, a) -> x.work(a[0]), new int[1], new Arg[] {to(0, 20)});
    }

    @Says(promise = 6, value = "Likewise the BOOK (n to 60): how many lines.")
    private static void book() {
        refused("book", (x, a) -> x.book(a[0]), new int[1], new Arg[] {to(0, 20)});
    }

    // ---- calls that answer without an exception, whatever they are given

    @Says(promise = 2, value = "NONE, doing nothing, if there would be more than 600.")
    private static void feed() {
        EvenFinders x = Drain.full();
        EvenFinders y = Drain.full();
        Check.feed(x, Texts.padded("night;", 600));
        Check.feed(y, Texts.padded("night;", 600));
        Check.is("feed", x.feed(1, 2, 3, 4, 5), -1);
        Check.is("fault()", x.fault(), 2);
        Check.is("status(0)", x.status(0), Drain.UNKNOWN_CALLS);
        Check.is("status(1)", x.status(1), Drain.WRONG_CALLS);
        Check.same("all else", Drain.of(x), Drain.of(y));
    }

    @Says(promise = 7, value = "The place of the FAULT of the latest text;")
    private static void fault() {
        answers("fault", (x, a) -> x.fault(), new int[0]);
    }

    @Says(promise = 42, value = "How many calls were refused: 0 NoSuchElementException, 1 IllegalArgumentException; NONE for others.")
    private static void status() {
        for (int what : new int[] {0, 1, 2, -1, Integer.MIN_VALUE, Integer.MAX_VALUE}) {
            answers("status", (x, a) -> x.status(a[0]), new int[] {what});
        }
    }

    @Says(promise = 43, value = "0 IMAGES, 1 bytes of the TAPE, 2 WORKS that can be undone; NONE for others.")
    private static void count() {
        for (int what : new int[] {0, 1, 2, 3, -1, Integer.MIN_VALUE, Integer.MAX_VALUE}) {
            answers("count", (x, a) -> x.count(a[0]), new int[] {what});
        }
    }

    @Says(promise = 40, value = "-1: there are 3.")
    private static void image() {
        EvenFinders x = Drain.fullWithTape();
        EvenFinders y = Drain.fullWithTape();
        x.image();
        y.image();
        Check.is("image", x.image(), -1);
        Check.is("fault()", x.fault(), 2);
        Check.same("all else", Drain.of(x), Drain.of(y));
    }

    // ---- promises 9 to 17

    @Says(promise = 9, value = "IllegalArgumentException: another what (so below).")
    private static void told() {
        asked("told", (x, a) -> x.told(a[0]), to(0, 11));
    }

    @Says(promise = 10, value = "NoSuchElementException: no such PLACE, ROAD, THING, FINDER (so below, ahead of others).")
    private static void place() {
        asked("place", (x, a) -> x.place(a[0], a[1]), PLACE, to(0, 3));
    }

    @Says(promise = 11, value = "Of a ROAD: 0 A, 1 B, 2 L.")
    private static void road() {
        asked("road", (x, a) -> x.road(a[0], a[1]), ROAD, to(0, 2));
    }

    @Says(promise = 12, value = "Of a THING: 0 WORTH, 1 the PLACE where it is (held or not), 2 who holds it (NONE).")
    private static void thing() {
        asked("thing", (x, a) -> x.thing(a[0], a[1]), THING, to(0, 2));
    }

    @Says(promise = 13, value = "Of a FINDER: 0 the PLACE, 1 what it OWES,")
    private static void finder() {
        asked("finder", (x, a) -> x.finder(a[0], a[1]), FINDER, to(0, 6));
    }

    @Says(promise = 14, value = "DUTY, were a FINDER to find a THING now (there or not).")
    private static void duty() {
        asked("duty", (x, a) -> x.duty(a[0], a[1]), FINDER, THING);
    }

    @Says(promise = 15, value = {"DUTY by the LAW for such worth (1 to 60), owes (-99 to 999), held (0 to 10), finds (0 to 999),",
        "lying (0 to 10), day (0 to 400), shame (0 to 999), finder (0 to 5)."})
    private static void would() {
        asked("would", (x, a) -> x.would(a[0], a[1], a[2], a[3], a[4], a[5], a[6], a[7]), to(1, 60), to(-99, 999), to(0, 10),
                to(0, 999), to(0, 10), to(0, 400), to(0, 999), to(0, 5));
    }

    @Says(promise = 16, value = "Whether find could be done now.")
    private static void can() {
        asked("can", (x, a) -> x.can(a[0], a[1]) ? 1 : 0, FINDER, THING);
    }

    @Says(promise = 17, value = "In n DAYS (0 to 99), nothing else being done:")
    private static void ahead() {
        asked("ahead", (x, a) -> x.ahead(a[0], a[1]), to(0, 99), to(0, 2));
    }

    // ---- promises 18 to 39

    @Says(promise = 18, value = {"Asked, nothing stays changed;", "FAR (0: one PLACE)."})
    private static void far() {
        asked("far", (x, a) -> x.far(a[0], a[1]), PLACE, PLACE);
    }

    @Says(promise = 19, value = {"Asked, nothing stays changed;", "ROUND (0: nothing lies elsewhere)."})
    private static void round() {
        asked("round", (x, a) -> x.round(a[0]), FINDER);
    }

    @Says(promise = 20, value = {"Asked, nothing stays changed;", "MEET: 0 the PLACE, 1 what all have to walk together; NONE both."})
    private static void meet() {
        asked("meet", (x, a) -> x.meet(a[0]), to(0, 1));
    }

    @Says(promise = 21, value = {"Asked, nothing stays changed;", "REACH, as bits."})
    private static void reach() {
        asked("reach", (x, a) -> x.reach(a[0]), FINDER);
    }

    @Says(promise = 22, value = {"Asked, nothing stays changed;", "SETTLE, as bits."})
    private static void settle() {
        asked("settle", (x, a) -> x.settle(a[0]), FINDER);
    }

    @Says(promise = 23, value = {"Asked, nothing stays changed;", "PARTS to n (0 to 600)."})
    private static void parts() {
        asked("parts", (x, a) -> x.parts(a[0], a[1]), FINDER, to(0, 600));
    }

    @Says(promise = 24, value = {"Asked, nothing stays changed;", "FITS: 0 how many, 1 the first"})
    private static void fits() {
        asked("fits", (x, a) -> x.fits(a[0]), to(0, 1));
    }

    @Says(promise = 25, value = {"Asked, nothing stays changed;", "LOOK: 0 the PLACE, 1 how many are left at the worst;"})
    private static void look() {
        asked("look", (x, a) -> x.look(a[0]), to(0, 1));
    }

    @Says(promise = 26, value = {"Asked, nothing stays changed;", "PINS of n (0 to 20), m (0 to n), k (0 to n): above (part 0), below (part 1), in least terms."})
    private static void pins() {
        // m and k go to n: with n at 20 all of them, with n at 0 and at 3 their own bounds.
        for (int n : new int[] {0, 3, 20}) {
            asked("pins of " + n, (x, a) -> x.pins(n, a[0], a[1], a[2]), to(0, n), to(0, n), to(0, 1));
        }
        asked("pins", (x, a) -> x.pins(a[0], 0, 0, a[1]), to(0, 20), to(0, 1));
    }

    @Says(promise = 27, value = {"Asked, nothing stays changed;", "AT ONE by v, w (0 to 99): 0 how many RESTS,"})
    private static void takes() {
        asked("takes", (x, a) -> x.takes(a[0], a[1], a[2]), to(0, 99), to(0, 99), to(0, 2));
    }

    @Says(promise = 28, value = {"Asked, nothing stays changed;", "What a FINDER gets of n (0 to 999)", "IllegalArgumentException: bits of no FINDERS."})
    private static void sixpence() {
        asked("sixpence", (x, a) -> x.sixpence(a[0], a[1], a[2]), FINDER, to(0, 3), to(0, 999));
    }

    @Says(promise = 29, value = {"Asked, nothing stays changed;", "The THING of greatest WORTH that lies about (what 0),"})
    private static void greatest() {
        asked("greatest", (x, a) -> x.greatest(a[0]), to(0, 1));
    }

    @Says(promise = 30, value = {"Asked, nothing stays changed;", "The FINDER who OWES most (what 0),"})
    private static void deepest() {
        asked("deepest", (x, a) -> x.deepest(a[0]), to(0, 1));
    }

    @Says(promise = 31, value = {"Asked, nothing stays changed;", "PLACES (bits) where nothing lies, and nobody is."})
    private static void empty() {
        asked("empty", (x, a) -> x.empty());
    }

    @Says(promise = 32, value = {"Asked, nothing stays changed;", "FINDERS (bits) who could find any THING now."})
    private static void lucky() {
        asked("lucky", (x, a) -> x.lucky());
    }

    @Says(promise = 33, value = {"Asked, nothing stays changed;", "than they OWE (what 0), of as much (1), of less (2)."})
    private static void sound() {
        asked("sound", (x, a) -> x.sound(a[0]), to(0, 2));
    }

    @Says(promise = 34, value = {"Asked, nothing stays changed;", "What a FINDER must walk to a THING that lies about;"})
    private static void way() {
        asked("way", (x, a) -> x.way(a[0], a[1]), FINDER, THING);
    }

    @Says(promise = 35, value = {"Asked, nothing stays changed;", "What all who OWE more than 0 OWE together (what 0),"})
    private static void burden() {
        asked("burden", (x, a) -> x.burden(a[0]), to(0, 1));
    }

    @Says(promise = 36, value = {"Asked, nothing stays changed;", "The THING that lies about nearest to a FINDER (what 0),"})
    private static void near() {
        asked("near", (x, a) -> x.near(a[0], a[1]), FINDER, to(0, 1));
    }

    @Says(promise = 37, value = {"Asked, nothing stays changed;", "THINGS (bits) a FINDER holds of which each by itself would make it EVEN,"})
    private static void enough() {
        asked("enough", (x, a) -> x.enough(a[0]), FINDER);
    }

    @Says(promise = 38, value = {"Asked, nothing stays changed;", "A YEAR of so many DAYS (1 to 96), Q (0 to 16):"})
    private static void year() {
        asked("year", (x, a) -> x.year(a[0], a[1], a[2], a[3]), SEED, to(0, 16), to(1, 96), to(0, 3));
    }

    @Says(promise = 39, value = {"Asked, nothing stays changed;", "Of so many SEEDS (1 to 20; seed, seed and 1, ..):",
        "(IllegalArgumentException: no such FINDER, also for 0, 1.)"})
    private static void span() {
        asked("span", (x, a) -> x.span(a[0], a[1], a[2], a[3], a[4], a[5]), SEED, to(1, 20), to(0, 16), to(1, 96), to(0, 2),
                to(0, Drain.FINDERS - 1));
    }

    // ---- a new object: there is no PLACE, ROAD, THING, FINDER

    @Says(promise = 1, value = "A TOWN without CLAUSES.")
    private static void nothingIsThere() {
        Of[] calls = {(x, a) -> x.place(0, 0), (x, a) -> x.road(0, 0), (x, a) -> x.thing(0, 0), (x, a) -> x.finder(0, 0),
            (x, a) -> x.duty(0, 0), (x, a) -> x.can(0, 0) ? 1 : 0, (x, a) -> x.far(0, 0), (x, a) -> x.round(0),
            (x, a) -> x.reach(0), (x, a) -> x.settle(0), (x, a) -> x.parts(0, 0), (x, a) -> x.sixpence(0, 0, 0),
            (x, a) -> x.way(0, 0), (x, a) -> x.near(0, 0), (x, a) -> x.enough(0)};
        EvenFinders x = new EvenFinders();
        for (Of call : calls) {
            Check.unknown("call", () -> call.answer(x, null));
        }
        Check.is("status(0)", x.status(0), calls.length);
        Check.is("status(1)", x.status(1), 0);
        Check.same("all else", Drain.of(x), Drain.of(new EvenFinders()));
        EvenFinders y = Check.in("places 1;finder 0;");
        Check.unknown("duty", () -> y.duty(0, 0));
        Check.unknown("can", () -> y.can(0, 0) ? 1 : 0);
        Check.unknown("way", () -> y.way(0, 0));
        Check.unknown("road", () -> y.road(0, 0));
        Check.is("status(0)", y.status(0), 4);
    }

    /** An object is used for 512 calls: the last of them answers, too. */
    @Says(promise = 42, value = "An object is used for at most 512 calls after it has been made;")
    private static void fiveHundredAndTwelveCalls() {
        EvenFinders x = new EvenFinders();
        for (int i = 0; i < 511; i++) {
            Check.wrong("told", () -> x.told(12));
        }
        Check.is("the 512th", x.status(1), 511);
    }
}
