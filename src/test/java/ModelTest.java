import java.util.Random;

/** Random runs of calls, each done by the class and by the Model: all answers and all refusals must be the same. */
public final class ModelTest {
    private static final int RUNS = 10000;
    /** An object is used for 512 calls; a text and what is told behind it take 46 at most. */
    private static final int CALLS = 512 - 46;

    private final Random random;
    private final EvenFinders x = new EvenFinders();
    private final Model y = new Model();
    private final StringBuilder story = new StringBuilder();
    private int places;
    private int roads;
    private int things;
    private int finders;
    private int made;

    private ModelTest(long seed) {
        random = new Random(seed);
    }

    public static void main(String[] args) {
        for (int run = 0; run < RUNS; run++) {
            ModelTest test = new ModelTest(run);
            while (test.made <= CALLS && test.goOn(run)) {
                // The run goes on until its object is spent, or an answer is not as due.
            }
        }
        Check.end("ModelTest");
    }

    private boolean goOn(int run) {
        int kind = random.nextInt(100);
        if (y.told(0) == 0 && kind < 50 || kind < 3) {
            return text(run, 0, wild(town()));
        }
        if (kind < 9) {
            return text(run, 1, wild(law(0)));
        }
        if (kind < 30) {
            return text(run, 2, wild(work(0)));
        }
        if (kind < 36) {
            return text(run, 3, wild(book()));
        }
        int[] a = new int[8];
        int which = random.nextInt(40);
        return ask(run, which, a);
    }

    // ---- texts

    private int to(int most) {
        return random.nextInt(most + 1);
    }

    private String blank() {
        return random.nextInt(12) == 0 ? "  " : "";
    }

    private String town() {
        StringBuilder text = new StringBuilder();
        int p = 0;
        int f = 0;
        int clauses = random.nextInt(40);
        for (int i = 0; i < clauses && text.length() < 560; i++) {
            int kind = random.nextInt(12);
            if (p == 0 || p < 8 && kind == 0) {
                int more = 1 + to(Math.min(4, 7 - p));
                p += more;
                text.append("places ").append(more);
            } else if (kind < 5 && p > 1) {
                int a = to(p - 1);
                int b = (a + 1 + to(p - 2)) % p;
                text.append("road ").append(a).append(' ').append(b).append(' ').append(1 + to(8));
            } else if (kind < 8) {
                text.append("thing ").append(to(p - 1)).append(' ').append(1 + to(random.nextBoolean() ? 9 : 59));
            } else if (kind < 10 || f == 0) {
                if (f < 6 || random.nextInt(9) == 0) {
                    f++;
                    text.append("finder ").append(to(p - 1));
                } else {
                    continue;
                }
            } else {
                text.append("own ").append(to(Math.min(f, 6) - 1)).append(' ').append(1 + to(random.nextBoolean() ? 9 : 59));
            }
            text.append(blank()).append(";").append(blank());
        }
        return text.toString();
    }

    private static final String[] NAMES = {"worth", "owes", "held", "finds", "lying", "day", "shame", "finder"};

    private String law(int open) {
        int kind = random.nextInt(open > 5 && random.nextInt(20) > 0 ? 5 : 10);
        if (kind < 2) {
            return blank() + to(random.nextInt(4) == 0 ? 999 : 12);
        }
        if (kind < 5) {
            return blank() + NAMES[random.nextInt(8)];
        }
        if (kind < 8) {
            return law(open) + blank() + "+-*/%".charAt(random.nextInt(5)) + law(open);
        }
        if (kind == 8) {
            return "(" + law(open + 1) + blank() + ")";
        }
        return (random.nextBoolean() ? "least[" : "most [") + law(open + 1) + "," + law(open + 1) + blank() + "]";
    }

    private String work(int open) {
        StringBuilder text = new StringBuilder();
        int steps = 1 + random.nextInt(open == 0 ? 12 : 4);
        for (int i = 0; i < steps; i++) {
            int kind = random.nextInt(14);
            if (kind < 4 && finders > 0 && roads > 0) {
                text.append("walk ").append(to(finders - 1)).append(' ').append(to(roads - 1));
            } else if (kind < 12 && finders > 0 && things > 0) {
                String word = kind < 9 ? "find " : kind < 11 ? "lose " : "slip ";
                text.append(word).append(to(finders - 1)).append(' ').append(to(things - 1));
            } else if (kind == 12 && open < 7) {
                text.append("again ").append(to(random.nextInt(3) == 0 ? 30 : 5)).append(blank()).append('[')
                        .append(work(open + 1)).append(']');
            } else {
                text.append("night");
            }
            text.append(blank()).append(';');
        }
        return text.toString();
    }

    private String book() {
        StringBuilder text = new StringBuilder();
        int first = to(7);
        int lines = to(4);
        for (int i = 0; i < lines && places > 0; i++) {
            int place = (first + i) % places;
            int worth = y.place(place, 1);
            if (random.nextInt(3) == 0 && things > 0) {
                int part = y.thing(to(things - 1), 0);
                worth += random.nextBoolean() ? part : -part;
            }
            text.append(place).append(' ').append(Math.max(0, worth)).append(blank()).append(';');
        }
        return text.toString();
    }

    /** Now and then a text is spoiled: a byte more, less or another, or its end cut off. */
    private String wild(String text) {
        if (random.nextInt(4) != 0) {
            return text;
        }
        StringBuilder spoiled = new StringBuilder(text);
        int at = to(text.length());
        String signs = "0123456789 ;[](),+-*/%abcnstwz\u00e9\u0000A";
        char sign = signs.charAt(random.nextInt(signs.length()));
        switch (random.nextInt(4)) {
            case 0: spoiled.insert(at, sign); break;
            case 1: if (at < text.length()) { spoiled.setCharAt(at, sign); } break;
            case 2: if (at < text.length()) { spoiled.deleteCharAt(at); } break;
            default: spoiled.setLength(at); break;
        }
        return spoiled.toString();
    }

    private boolean text(int run, int kind, String whole) {
        int[] most = {600, 150, 150, 60};
        String text = whole;
        if (random.nextInt(10) != 0 && text.length() > most[kind]) {
            text = text.substring(0, most[kind]);
        }
        boolean same = true;
        for (int i = 0; i < text.length() && same; i += 20) {
            int[] v = new int[5];
            for (int j = 0; j < 20; j++) {
                v[j / 4] = v[j / 4] << 8 | (i + j < text.length() ? text.charAt(i + j) & 255 : to(255));
            }
            same = same(run, "feed", x.feed(v[0], v[1], v[2], v[3], v[4]), y.feed(v));
        }
        int n = random.nextInt(30) == 0 ? to(800) - 100 : text.length();
        story.append(new String[] {"town", "law", "work", "book"}[kind]).append("(").append(n).append(") ").append(text).append("\n");
        long got = Check.of(() -> kind == 0 ? x.town(n) : kind == 1 ? x.law(n) : kind == 2 ? x.work(n) : x.book(n));
        long want = Check.of(() -> kind == 0 ? y.town(n) : kind == 1 ? y.law(n) : kind == 2 ? y.work(n) : y.book(n));
        same = same && same(run, "text", got, want) && same(run, "fault", x.fault(), y.fault());
        if (want == Check.WRONG && y.count(1) > 0) {
            // An empty text of a BOOK makes room on the TAPE.
            same = same && same(run, "book(0)", x.book(0), y.book(0));
        }
        places = y.told(0);
        roads = y.told(1);
        things = y.told(2);
        finders = y.told(3);
        for (int what = 0; what < 12; what++) {
            same = same && same(run, "told " + what, x.told(what), y.told(what));
        }
        return same;
    }

    // ---- calls

    /** A number that mostly is one of so many, now and then next to them or far from them. */
    private int near(int many) {
        int kind = random.nextInt(25);
        if (kind == 0) {
            return -1;
        }
        if (kind == 1) {
            return many;
        }
        if (kind == 2) {
            return random.nextInt();
        }
        return many > 0 ? random.nextInt(many) : 0;
    }

    private boolean ask(int run, int which, int[] a) {
        String label = "call " + which;
        long got;
        long want;
        if (which < 20) {
            set(a, which);
            got = Check.of(() -> asked(which, a));
            want = Check.of(() -> modelled(which, a));
        } else {
            setMore(a, which);
            got = Check.of(() -> askedMore(which, a));
            want = Check.of(() -> modelledMore(which, a));
        }
        label += " of " + java.util.Arrays.toString(a);
        story.append(label).append("\n");
        return same(run, label, got, want) && same(run, "status 0", x.status(0), y.status(0))
                && same(run, "status 1", x.status(1), y.status(1)) && same(run, "count 0", x.count(0), y.count(0))
                && same(run, "count 1", x.count(1), y.count(1)) && same(run, "count 2", x.count(2), y.count(2));
    }

    private void set(int[] a, int which) {
        int[][] many = {{}, {12}, {places, 4}, {roads, 3}, {things, 3}, {finders, 7}, {finders, things}, {},
            {finders, things}, {100, 3}, {places, places}, {finders}, {2}, {finders}, {finders}, {finders, 40}, {2}, {2},
            {21, 5, 5, 2}, {100, 100, 3}};
        for (int i = 0; i < many[which].length; i++) {
            a[i] = near(many[which][i]);
        }
        if (which == 7) {
            int[] least = {1, -99, 0, 0, 0, 0, 0, 0};
            int[] most = {60, 999, 10, 999, 10, 400, 999, 5};
            for (int i = 0; i < 8; i++) {
                a[i] = least[i] + random.nextInt(most[i] - least[i] + 1);
                a[i] = random.nextInt(80) == 0 ? least[i] - 1 : random.nextInt(80) == 0 ? most[i] + 1 : a[i];
            }
        } else if (which == 15 && random.nextBoolean()) {
            a[1] = to(602);
        } else if (which == 18 && a[0] > 0 && a[0] < 21) {
            a[1] = near(a[0] + 1);
            a[2] = near(a[0] + 1);
        }
    }

    private long asked(int which, int[] a) {
        switch (which) {
            case 0: return x.undo();
            case 1: return x.told(a[0]);
            case 2: return x.place(a[0], a[1]);
            case 3: return x.road(a[0], a[1]);
            case 4: return x.thing(a[0], a[1]);
            case 5: return x.finder(a[0], a[1]);
            case 6: return x.duty(a[0], a[1]);
            case 7: return x.would(a[0], a[1], a[2], a[3], a[4], a[5], a[6], a[7]);
            case 8: return x.can(a[0], a[1]) ? 1 : 0;
            case 9: return x.ahead(a[0], a[1]);
            case 10: return x.far(a[0], a[1]);
            case 11: return x.round(a[0]);
            case 12: return x.meet(a[0]);
            case 13: return x.reach(a[0]);
            case 14: return x.settle(a[0]);
            case 15: return x.parts(a[0], a[1]);
            case 16: return x.fits(a[0]);
            case 17: return x.look(a[0]);
            case 18: return x.pins(a[0], a[1], a[2], a[3]);
            default: return x.takes(a[0], a[1], a[2]);
        }
    }

    private long modelled(int which, int[] a) {
        switch (which) {
            case 0: return y.undo();
            case 1: return y.told(a[0]);
            case 2: return y.place(a[0], a[1]);
            case 3: return y.road(a[0], a[1]);
            case 4: return y.thing(a[0], a[1]);
            case 5: return y.finder(a[0], a[1]);
            case 6: return y.duty(a[0], a[1]);
            case 7: return y.would(a);
            case 8: return y.can(a[0], a[1]);
            case 9: return y.ahead(a[0], a[1]);
            case 10: return y.far(a[0], a[1]);
            case 11: return y.round(a[0]);
            case 12: return y.meet(a[0]);
            case 13: return y.reach(a[0]);
            case 14: return y.settle(a[0]);
            case 15: return y.parts(a[0], a[1]);
            case 16: return y.fits(a[0]);
            case 17: return y.look(a[0]);
            case 18: return y.pins(a[0], a[1], a[2], a[3]);
            default: return y.takes(a[0], a[1], a[2]);
        }
    }

    private void setMore(int[] a, int which) {
        int[][] many = {{finders, 1 << finders, 200}, {2}, {2}, {}, {}, {3}, {finders, things}, {2}, {finders, 2}, {finders},
            {0, 17, 97, 4}, {0, 21, 17, 97, 3, finders}, {}, {}, {2}, {3}, {finders, 7}, {finders, 7}, {}, {}};
        int row = which - 20;
        for (int i = 0; i < many[row].length; i++) {
            a[i] = near(many[row][i]);
        }
        if (which == 30 || which == 31) {
            a[0] = random.nextInt();
        }
        if (which == 31) {
            a[3] = near(12);
        }
    }

    private long askedMore(int which, int[] a) {
        switch (which) {
            case 20: return x.sixpence(a[0], a[1], a[2]);
            case 21: return x.greatest(a[0]);
            case 22: return x.deepest(a[0]);
            case 23: return x.empty();
            case 24: return x.lucky();
            case 25: return x.sound(a[0]);
            case 26: return x.way(a[0], a[1]);
            case 27: return x.burden(a[0]);
            case 28: return x.near(a[0], a[1]);
            case 29: return x.enough(a[0]);
            case 30: return x.year(a[0], a[1], a[2], a[3]);
            case 31: return x.span(a[0], a[1], a[2], a[3], a[4], a[5]);
            case 32: return x.image();
            case 33: return x.restore();
            case 34: return x.status(a[0]);
            case 35: return x.count(a[0]);
            case 36: case 37: return x.finder(a[0], a[1]);
            default: return x.undo();
        }
    }

    private long modelledMore(int which, int[] a) {
        switch (which) {
            case 20: return y.sixpence(a[0], a[1], a[2]);
            case 21: return y.greatest(a[0]);
            case 22: return y.deepest(a[0]);
            case 23: return y.empty();
            case 24: return y.lucky();
            case 25: return y.sound(a[0]);
            case 26: return y.way(a[0], a[1]);
            case 27: return y.burden(a[0]);
            case 28: return y.near(a[0], a[1]);
            case 29: return y.enough(a[0]);
            case 30: return y.year(a[0], a[1], a[2], a[3]);
            case 31: return y.span(a[0], a[1], a[2], a[3], a[4], a[5]);
            case 32: return y.image();
            case 33: return y.restore();
            case 34: return y.status(a[0]);
            case 35: return y.count(a[0]);
            case 36: case 37: return y.finder(a[0], a[1]);
            default: return y.undo();
        }
    }

    private boolean same(int run, String label, long got, long want) {
        made++;
        Check.is("run " + run + ": " + label, got, want);
        if (got != want) {
            System.out.println(story);
        }
        return got == want;
    }
}
