import java.math.BigInteger;
import java.util.ArrayDeque;
import java.util.ArrayList;
import java.util.Comparator;
import java.util.HashMap;
import java.util.List;
import java.util.Map;
import java.util.NoSuchElementException;

/** The document a second time, by other means and without care for speed, for ModelTest to hold the class against. */
final class Model {
    /** A FAULT of a text. */
    private static final class Fault extends Exception {
        final int kind;
        final int place;

        Fault(int kind, int place) {
            this.kind = kind;
            this.place = place;
        }
    }

    /** A word, a number, a sign, or the end (kind 'e'), with its first byte. */
    private record Token(char kind, String text, int place) {
        BigInteger value() {
            return new BigInteger(text);
        }
    }

    private record Road(int a, int b, int length) {
    }

    private static final class Thing {
        int worth;
        int lies;
        int holder;
    }

    private static final class Finder {
        int spot;
        int owes;
        int walked;
        int found;
        int shamed;
    }

    /** A tree of a LAW. */
    private interface Tree {
        int value(int[] given);
    }

    /** A STEP, with those of an again. */
    private record Step(String word, int a, int b, List<Step> inside) {
    }

    /** What WORK changes. */
    private static final class State {
        int day;
        List<Thing> things = new ArrayList<>();
        List<Finder> finders = new ArrayList<>();

        State copy() {
            State other = new State();
            other.day = day;
            for (Thing t : things) {
                Thing u = new Thing();
                u.worth = t.worth;
                u.lies = t.lies;
                u.holder = t.holder;
                other.things.add(u);
            }
            for (Finder f : finders) {
                Finder g = new Finder();
                g.spot = f.spot;
                g.owes = f.owes;
                g.walked = f.walked;
                g.found = f.found;
                g.shamed = f.shamed;
                other.finders.add(g);
            }
            return other;
        }
    }

    private record Image(State state, List<State> works) {
    }

    private byte[] tape = new byte[0];
    private int places;
    private List<Road> roads = new ArrayList<>();
    private State state = new State();
    private Tree law = given -> given[0];
    private Map<Integer, Integer> book = new HashMap<>();
    private List<State> works = new ArrayList<>();
    private ArrayDeque<Image> images = new ArrayDeque<>();
    private int fault = -1;
    private int refused;
    private int unknown;
    private int wrong;

    // ---- refusals

    private void need(boolean right) {
        if (!right) {
            wrong++;
            throw new IllegalArgumentException();
        }
    }

    private void exists(int number, int many) {
        if (number < 0 || number >= many) {
            unknown++;
            throw new NoSuchElementException();
        }
    }

    private void isFinder(int finder) {
        exists(finder, state.finders.size());
    }

    private void isThing(int thing) {
        exists(thing, state.things.size());
    }

    // ---- texts

    int feed(int... numbers) {
        if (tape.length + 20 > 600) {
            return -1;
        }
        byte[] more = new byte[tape.length + 20];
        System.arraycopy(tape, 0, more, 0, tape.length);
        java.nio.ByteBuffer buffer = java.nio.ByteBuffer.wrap(more, tape.length, 20);
        for (int number : numbers) {
            buffer.putInt(number);
        }
        tape = more;
        return tape.length;
    }

    private List<Token> tokens;
    private int next;

    /** Cuts the text into tokens; a byte that begins none is one by itself, of kind '?'. */
    private void cut(int n, int most) {
        need(n >= 0 && n <= tape.length && n <= most);
        String text = new String(tape, 0, n, java.nio.charset.StandardCharsets.ISO_8859_1);
        tape = new byte[0];
        fault = -1;
        tokens = new ArrayList<>();
        next = 0;
        java.util.regex.Matcher m = java.util.regex.Pattern.compile("([a-z]+)|([0-9]+)|( +)|([\\s\\S])").matcher(text);
        while (m.find()) {
            if (m.group(1) != null) {
                tokens.add(new Token('w', m.group(), m.start()));
            } else if (m.group(2) != null) {
                tokens.add(new Token('n', m.group(), m.start()));
            } else if (m.group(4) != null) {
                tokens.add(new Token('s', m.group(), m.start()));
            }
        }
        tokens.add(new Token('e', "", n));
    }

    private Token peek() {
        return tokens.get(next);
    }

    private boolean isNext(String text) {
        return peek().kind != 'e' && peek().text.equals(text);
    }

    private void sign(String text) throws Fault {
        if (!isNext(text)) {
            throw new Fault(1, peek().place);
        }
        next++;
    }

    private int number(int least, int most) throws Fault {
        Token token = peek();
        if (token.kind != 'n') {
            throw new Fault(1, token.place);
        }
        if (token.value().compareTo(BigInteger.valueOf(least)) < 0 || token.value().compareTo(BigInteger.valueOf(most)) > 0) {
            throw new Fault(2, token.place);
        }
        next++;
        return token.value().intValue();
    }

    private int failed(Fault e) {
        fault = e.place;
        return e.kind - 10;
    }

    int town(int n) {
        cut(n, 600);
        int newPlaces = 0;
        List<Road> newRoads = new ArrayList<>();
        State made = new State();
        try {
            int clauses = 0;
            while (peek().kind != 'e') {
                Token word = peek();
                if (!List.of("places", "road", "thing", "finder", "own").contains(word.text)) {
                    throw new Fault(1, word.place);
                }
                boolean isThing = word.text.equals("thing") || word.text.equals("own");
                if (++clauses > 60 || word.text.equals("road") && newRoads.size() == 12
                        || isThing && made.things.size() == 10 || word.text.equals("finder") && made.finders.size() == 6) {
                    throw new Fault(3, word.place);
                }
                next++;
                if (word.text.equals("places")) {
                    newPlaces += number(1, 8 - newPlaces);
                } else if (word.text.equals("road")) {
                    int a = number(0, newPlaces - 1);
                    int place = peek().place;
                    int b = number(0, newPlaces - 1);
                    if (a == b) {
                        throw new Fault(2, place);
                    }
                    newRoads.add(new Road(a, b, number(1, 9)));
                } else if (word.text.equals("finder")) {
                    Finder f = new Finder();
                    f.spot = number(0, newPlaces - 1);
                    made.finders.add(f);
                } else {
                    Thing t = new Thing();
                    boolean own = word.text.equals("own");
                    int at = number(0, (own ? made.finders.size() : newPlaces) - 1);
                    t.holder = own ? at : -1;
                    t.lies = own ? -1 : at;
                    t.worth = number(1, 60);
                    made.things.add(t);
                }
                sign(";");
            }
        } catch (Fault e) {
            return failed(e);
        }
        places = newPlaces;
        roads = newRoads;
        state = made;
        law = given -> given[0];
        book = new HashMap<>();
        works = new ArrayList<>();
        images = new ArrayDeque<>();
        refused = 0;
        return state.things.size();
    }

    int law(int n) {
        cut(n, 150);
        try {
            Tree tree = sum(0);
            if (peek().kind != 'e') {
                throw new Fault(1, peek().place);
            }
            law = tree;
            return 1;
        } catch (Fault e) {
            return failed(e);
        }
    }

    private Tree sum(int open) throws Fault {
        Tree left = product(open);
        while (isNext("+") || isNext("-")) {
            boolean plus = isNext("+");
            next++;
            Tree a = left;
            Tree b = product(open);
            left = plus ? g -> a.value(g) + b.value(g) : g -> a.value(g) - b.value(g);
        }
        return left;
    }

    private Tree product(int open) throws Fault {
        Tree left = unit(open);
        while (isNext("*") || isNext("/") || isNext("%")) {
            String sign = peek().text;
            next++;
            Tree a = left;
            Tree b = unit(open);
            left = g -> {
                long x = a.value(g);
                long y = b.value(g);
                if (sign.equals("*")) {
                    return (int) (x * y);
                }
                if (y == 0) {
                    return 0;
                }
                return (int) (sign.equals("/") ? x / y : x % y);
            };
        }
        return left;
    }

    private Tree unit(int open) throws Fault {
        Token token = peek();
        if (token.kind == 'n') {
            int value = number(0, 999);
            return g -> value;
        }
        boolean pair = token.text.equals("least") || token.text.equals("most");
        if (pair || token.text.equals("(")) {
            if (open == 6) {
                throw new Fault(3, token.place);
            }
            next++;
            if (!pair) {
                Tree inside = sum(open + 1);
                sign(")");
                return inside;
            }
            sign("[");
            Tree a = sum(open + 1);
            sign(",");
            Tree b = sum(open + 1);
            sign("]");
            return token.text.equals("least") ? g -> Math.min(a.value(g), b.value(g)) : g -> Math.max(a.value(g), b.value(g));
        }
        int name = List.of("worth", "owes", "held", "finds", "lying", "day", "shame", "finder").indexOf(token.text);
        if (name < 0) {
            throw new Fault(1, token.place);
        }
        next++;
        return g -> g[name];
    }

    int work(int n) {
        need(n >= 0 && n <= tape.length && n <= 150);
        if (works.size() == 16) {
            tape = new byte[0];
            fault = -1;
            return -20;
        }
        cut(n, 150);
        List<Step> steps;
        try {
            steps = steps(0);
        } catch (Fault e) {
            return failed(e);
        }
        works.add(state.copy());
        int[] counts = new int[3];
        doAll(steps, counts);
        refused = counts[2];
        return counts[1];
    }

    private List<Step> steps(int open) throws Fault {
        List<Step> steps = new ArrayList<>();
        while (peek().kind != 'e' && !(open > 0 && isNext("]"))) {
            Token word = peek();
            int a = 0;
            int b = 0;
            List<Step> inside = null;
            switch (word.text) {
                case "night":
                    next++;
                    break;
                case "walk": case "find": case "lose": case "slip":
                    next++;
                    a = number(0, state.finders.size() - 1);
                    b = number(0, (word.text.equals("walk") ? roads.size() : state.things.size()) - 1);
                    break;
                case "again":
                    if (open == 6) {
                        throw new Fault(3, word.place);
                    }
                    next++;
                    a = number(0, 30);
                    sign("[");
                    inside = steps(open + 1);
                    sign("]");
                    break;
                default:
                    throw new Fault(1, word.place);
            }
            sign(";");
            steps.add(new Step(word.text, a, b, inside));
        }
        return steps;
    }

    /** Counts: begun, done, refused. */
    private void doAll(List<Step> steps, int[] counts) {
        for (Step step : steps) {
            if (counts[0] == 200) {
                return;
            }
            counts[0]++;
            if (step.inside != null) {
                for (int i = 0; i < step.a; i++) {
                    doAll(step.inside, counts);
                }
            } else {
                boolean done = step.word.equals("night") ? state.day < 400 : able(state, step.word, step.a, step.b);
                if (done) {
                    apply(state, step.word, step.a, step.b);
                }
                counts[done ? 1 : 2]++;
            }
        }
    }

    private boolean able(State s, String word, int a, int b) {
        Finder f = s.finders.get(a);
        switch (word) {
            case "walk":
                Road r = roads.get(b);
                return (r.a == f.spot || r.b == f.spot) && f.walked + r.length <= 24;
            case "find":
                return s.things.get(b).holder == -1 && s.things.get(b).lies == f.spot && f.owes <= 0;
            case "lose":
                return s.things.get(b).holder == a && f.owes > 0;
            default:
                return s.things.get(b).holder == a;
        }
    }

    private void apply(State s, String word, int a, int b) {
        switch (word) {
            case "walk": {
                Finder f = s.finders.get(a);
                Road r = roads.get(b);
                f.spot = r.a + r.b - f.spot;
                f.walked += r.length;
                break;
            }
            case "find": {
                int duty = dutyIn(s, a, b);
                s.finders.get(a).owes += duty;
                s.finders.get(a).found++;
                s.things.get(b).holder = a;
                s.things.get(b).lies = -1;
                break;
            }
            case "lose":
                s.finders.get(a).owes = Math.max(s.finders.get(a).owes - s.things.get(b).worth, 0);
                putDown(s, b);
                break;
            case "slip":
                s.finders.get(a).owes = Math.max(s.finders.get(a).owes - s.things.get(b).worth, -99);
                putDown(s, b);
                break;
            default:
                night(s);
        }
    }

    private static void putDown(State s, int thing) {
        Thing t = s.things.get(thing);
        t.lies = s.finders.get(t.holder).spot;
        t.holder = -1;
    }

    private static void night(State s) {
        for (int f = 0; f < s.finders.size(); f++) {
            Finder finder = s.finders.get(f);
            finder.walked = 0;
            if (finder.owes > 0) {
                finder.shamed++;
                int least = -1;
                for (int t = s.things.size() - 1; t >= 0; t--) {
                    if (s.things.get(t).holder == f && (least < 0 || s.things.get(t).worth <= s.things.get(least).worth)) {
                        least = t;
                    }
                }
                if (least >= 0) {
                    putDown(s, least);
                }
            }
        }
        s.day++;
    }

    private int dutyIn(State s, int finder, int thing) {
        Finder f = s.finders.get(finder);
        int held = 0;
        int lying = 0;
        for (Thing t : s.things) {
            held += t.holder == finder ? 1 : 0;
            lying += t.holder == -1 && t.lies == f.spot ? 1 : 0;
        }
        return clamp(law.value(new int[] {s.things.get(thing).worth, f.owes, held, f.found, lying, s.day, f.shamed, finder}));
    }

    private static int clamp(int value) {
        return Math.max(0, Math.min(99, value));
    }

    int book(int n) {
        cut(n, 60);
        Map<Integer, Integer> lines = new HashMap<>();
        try {
            while (peek().kind != 'e') {
                int at = peek().place;
                int place = number(0, places - 1);
                if (lines.containsKey(place)) {
                    throw new Fault(2, at);
                }
                lines.put(place, number(0, 600));
                sign(";");
            }
        } catch (Fault e) {
            return failed(e);
        }
        book = lines;
        return book.size();
    }

    int fault() {
        return fault;
    }

    int undo() {
        if (works.isEmpty()) {
            return -1;
        }
        state = works.remove(works.size() - 1);
        refused = 0;
        return works.size();
    }

    int image() {
        if (images.size() == 3) {
            return -1;
        }
        images.push(new Image(state.copy(), copies(works)));
        return images.size();
    }

    int restore() {
        if (images.isEmpty()) {
            return -1;
        }
        Image image = images.pop();
        state = image.state;
        works = image.works;
        refused = 0;
        return images.size();
    }

    private static List<State> copies(List<State> states) {
        List<State> made = new ArrayList<>();
        for (State s : states) {
            made.add(s.copy());
        }
        return made;
    }

    int status(int what) {
        return what == 0 ? unknown : what == 1 ? wrong : -1;
    }

    int count(int what) {
        return what == 0 ? images.size() : what == 1 ? tape.length : what == 2 ? works.size() : -1;
    }

    // ---- what is told

    private interface Which {
        boolean is(int number);
    }

    private static int bits(int many, Which which) {
        int bits = 0;
        for (int i = 0; i < many; i++) {
            if (which.is(i)) {
                bits += 1 << i;
            }
        }
        return bits;
    }

    private static int heldBits(State s) {
        return bits(s.things.size(), t -> s.things.get(t).holder != -1);
    }

    private static int evenBits(State s) {
        return bits(s.finders.size(), f -> s.finders.get(f).owes == 0);
    }

    private static int shames(State s) {
        return s.finders.stream().mapToInt(f -> f.shamed).sum();
    }

    private static int lyingWorth(State s) {
        return s.things.stream().filter(t -> t.holder == -1).mapToInt(t -> t.worth).sum();
    }

    private int worthAt(int place) {
        return state.things.stream().filter(t -> t.holder == -1 && t.lies == place).mapToInt(t -> t.worth).sum();
    }

    private int heldWorth(int finder) {
        return state.things.stream().filter(t -> t.holder == finder).mapToInt(t -> t.worth).sum();
    }

    int told(int what) {
        switch (what) {
            case 0: return places;
            case 1: return roads.size();
            case 2: return state.things.size();
            case 3: return state.finders.size();
            case 4: return state.day;
            case 5: return heldBits(state);
            case 6: return evenBits(state);
            case 7: return bits(state.finders.size(), f -> state.finders.get(f).owes > 0);
            case 8: return lyingWorth(state);
            case 9: return book.size();
            case 10: return refused;
            case 11: return shames(state);
            default:
                need(false);
                return 0;
        }
    }

    int place(int place, int what) {
        exists(place, places);
        need(what >= 0 && what <= 3);
        if (what == 0) {
            return bits(state.things.size(), t -> state.things.get(t).holder == -1 && state.things.get(t).lies == place);
        }
        if (what == 1) {
            return worthAt(place);
        }
        if (what == 2) {
            return bits(state.finders.size(), f -> state.finders.get(f).spot == place);
        }
        return (int) roads.stream().filter(r -> r.a == place || r.b == place).count();
    }

    int road(int road, int what) {
        exists(road, roads.size());
        need(what >= 0 && what <= 2);
        Road r = roads.get(road);
        return what == 0 ? r.a : what == 1 ? r.b : r.length;
    }

    int thing(int thing, int what) {
        isThing(thing);
        need(what >= 0 && what <= 2);
        Thing t = state.things.get(thing);
        return what == 0 ? t.worth : what == 2 ? t.holder : t.holder == -1 ? t.lies : state.finders.get(t.holder).spot;
    }

    int finder(int finder, int what) {
        isFinder(finder);
        need(what >= 0 && what <= 6);
        Finder f = state.finders.get(finder);
        int held = bits(state.things.size(), t -> state.things.get(t).holder == finder);
        return new int[] {f.spot, f.owes, held, heldWorth(finder), f.walked, f.found, f.shamed}[what];
    }

    int duty(int finder, int thing) {
        isFinder(finder);
        isThing(thing);
        return dutyIn(state, finder, thing);
    }

    int would(int... v) {
        int[] least = {1, -99, 0, 0, 0, 0, 0, 0};
        int[] most = {60, 999, 10, 999, 10, 400, 999, 5};
        boolean right = true;
        for (int i = 0; i < 8; i++) {
            right &= v[i] >= least[i] && v[i] <= most[i];
        }
        need(right);
        return clamp(law.value(v));
    }

    int can(int finder, int thing) {
        isFinder(finder);
        isThing(thing);
        return able(state, "find", finder, thing) ? 1 : 0;
    }

    // ---- what is asked

    int ahead(int n, int what) {
        need(n >= 0 && n <= 99 && what >= 0 && what <= 2);
        State s = state.copy();
        for (int i = 0; i < n; i++) {
            night(s);
        }
        return what == 0 ? heldBits(s) : what == 1 ? shames(s) : lyingWorth(s);
    }

    /** Walks on from a PLACE, road by road, as long as something gets nearer. */
    private int[] farFrom(int place) {
        int[] far = new int[places];
        java.util.Arrays.fill(far, -1);
        far[place] = 0;
        boolean more = true;
        while (more) {
            more = false;
            for (Road r : roads) {
                for (int[] way : new int[][] {{r.a, r.b}, {r.b, r.a}}) {
                    int then = far[way[0]] + r.length;
                    if (far[way[0]] >= 0 && (far[way[1]] < 0 || then < far[way[1]])) {
                        far[way[1]] = then;
                        more = true;
                    }
                }
            }
        }
        return far;
    }

    int far(int place, int other) {
        exists(place, places);
        exists(other, places);
        return farFrom(place)[other];
    }

    int round(int finder) {
        isFinder(finder);
        List<Integer> goals = new ArrayList<>();
        for (int p = 0; p < places; p++) {
            int place = p;
            if (state.things.stream().anyMatch(t -> t.holder == -1 && t.lies == place)) {
                goals.add(p);
            }
        }
        int[][] far = new int[places][];
        for (int p = 0; p < places; p++) {
            far[p] = farFrom(p);
        }
        return roundFrom(state.finders.get(finder).spot, goals, far);
    }

    /** Every order of the goals is tried. */
    private static int roundFrom(int place, List<Integer> goals, int[][] far) {
        if (goals.isEmpty()) {
            return 0;
        }
        int best = -1;
        for (int i = 0; i < goals.size(); i++) {
            List<Integer> rest = new ArrayList<>(goals);
            int goal = rest.remove(i);
            int more = far[place][goal] < 0 ? -1 : roundFrom(goal, rest, far);
            if (more >= 0 && (best < 0 || far[place][goal] + more < best)) {
                best = far[place][goal] + more;
            }
        }
        return best;
    }

    int meet(int what) {
        need(what == 0 || what == 1);
        int best = -1;
        int least = -1;
        for (int p = places - 1; p >= 0; p--) {
            int sum = 0;
            boolean all = !state.finders.isEmpty();
            for (Finder f : state.finders) {
                int far = farFrom(f.spot)[p];
                all &= far >= 0;
                sum += far;
            }
            if (all && (best < 0 || sum <= least)) {
                best = p;
                least = sum;
            }
        }
        return what == 0 ? best : least;
    }

    int reach(int finder) {
        isFinder(finder);
        Finder f = state.finders.get(finder);
        return bits(state.things.size(), t -> {
            int way = wayTo(finder, t);
            return way >= 0 && way <= 24 - f.walked;
        });
    }

    private int wayTo(int finder, int thing) {
        Thing t = state.things.get(thing);
        return t.holder != -1 ? -1 : farFrom(state.finders.get(finder).spot)[t.lies];
    }

    private int worthOf(int set) {
        int sum = 0;
        for (int t = 0; t < state.things.size(); t++) {
            sum += (set >> t & 1) * state.things.get(t).worth;
        }
        return sum;
    }

    private List<Integer> heldSets(int finder) {
        List<Integer> sets = new ArrayList<>();
        sets.add(0);
        for (int t = 0; t < state.things.size(); t++) {
            if (state.things.get(t).holder == finder) {
                for (int set : new ArrayList<>(sets)) {
                    sets.add(set | 1 << t);
                }
            }
        }
        return sets;
    }

    int settle(int finder) {
        isFinder(finder);
        int owes = state.finders.get(finder).owes;
        if (owes <= 0) {
            return 0;
        }
        Comparator<Integer> order = Comparator.comparing((Integer set) -> worthOf(set));
        order = order.thenComparing((Integer set) -> Integer.bitCount(set)).thenComparing((Integer set) -> set);
        return heldSets(finder).stream().filter(set -> worthOf(set) >= owes).min(order).orElse(-1);
    }

    int parts(int finder, int n) {
        isFinder(finder);
        need(n >= 0 && n <= 600);
        return (int) heldSets(finder).stream().filter(set -> worthOf(set) == n).count();
    }

    /** Pairs by truly putting each THING at each PLACE. */
    private List<int[]> pairs() {
        List<int[]> pairs = new ArrayList<>();
        State kept = state;
        for (int t = 0; t < kept.things.size(); t++) {
            for (int p = 0; p < places; p++) {
                state = kept.copy();
                state.things.get(t).holder = -1;
                state.things.get(t).lies = p;
                if (book.entrySet().stream().allMatch(line -> worthAt(line.getKey()) == line.getValue())) {
                    pairs.add(new int[] {t, p});
                }
                state = kept;
            }
        }
        return pairs;
    }

    int fits(int what) {
        need(what == 0 || what == 1);
        List<int[]> pairs = pairs();
        if (what == 0) {
            return pairs.size();
        }
        return pairs.isEmpty() ? -1 : pairs.get(0)[0] * 10 + pairs.get(0)[1];
    }

    int look(int what) {
        need(what == 0 || what == 1);
        List<int[]> pairs = pairs();
        int best = -1;
        int least = -1;
        State kept = state;
        for (int p = 0; p < places; p++) {
            if (!book.containsKey(p)) {
                Map<Integer, Integer> seen = new HashMap<>();
                for (int[] pair : pairs) {
                    state = kept.copy();
                    state.things.get(pair[0]).holder = -1;
                    state.things.get(pair[0]).lies = pair[1];
                    seen.merge(worthAt(p), 1, Integer::sum);
                    state = kept;
                }
                int worst = seen.values().stream().mapToInt(i -> i).max().orElse(0);
                if (best < 0 || worst < least) {
                    best = p;
                    least = worst;
                }
            }
        }
        return what == 0 ? best : least;
    }

    long pins(int n, int m, int k, int part) {
        need(n >= 0 && n <= 20 && m >= 0 && m <= n && k >= 0 && k <= n && (part == 0 || part == 1));
        // The chance that no bent one comes, pin by pin.
        BigInteger above = BigInteger.ONE;
        BigInteger below = BigInteger.ONE;
        for (int i = 0; i < k; i++) {
            above = above.multiply(BigInteger.valueOf(Math.max(0, n - m - i)));
            below = below.multiply(BigInteger.valueOf(n - i));
        }
        above = below.subtract(above);
        BigInteger common = above.gcd(below);
        return (part == 0 ? above : below).divide(common).longValueExact();
    }

    int takes(int v, int w, int what) {
        need(v >= 0 && v <= 99 && w >= 0 && w <= 99 && what >= 0 && what <= 2);
        int[][][] has = {{{-w, -w}, {v - w, 0}}, {{0, v - w}, {0, 0}}};
        int many = 0;
        int first = -1;
        int both = 0;
        for (int a = 0; a < 2; a++) {
            for (int b = 0; b < 2; b++) {
                if (has[a][b][0] >= has[1 - a][b][0] && has[a][b][1] >= has[a][1 - b][1]) {
                    many++;
                    if (first < 0) {
                        first = 10 * a + b;
                        both = has[a][b][0] + has[a][b][1];
                    }
                }
            }
        }
        return what == 0 ? many : what == 1 ? first : both;
    }

    int sixpence(int finder, int finders, int n) {
        isFinder(finder);
        need(n >= 0 && n <= 999 && finders >>> state.finders.size() == 0);
        int[] got = new int[state.finders.size()];
        int left = n;
        // Round by round, one to each who still has less than its WORTH, as long as a whole round can be given.
        while (true) {
            List<Integer> want = new ArrayList<>();
            for (int f = 0; f < got.length; f++) {
                if ((finders >> f & 1) == 1 && got[f] < heldWorth(f)) {
                    want.add(f);
                }
            }
            if (want.isEmpty() || want.size() > left) {
                return got[finder];
            }
            for (int f : want) {
                got[f]++;
                left--;
            }
        }
    }

    int greatest(int what) {
        need(what == 0 || what == 1);
        int best = -1;
        for (int t = 0; t < state.things.size(); t++) {
            if (state.things.get(t).holder == -1 && (best < 0 || state.things.get(t).worth > state.things.get(best).worth)) {
                best = t;
            }
        }
        return best < 0 || what == 0 ? best : state.things.get(best).worth;
    }

    int deepest(int what) {
        need(what == 0 || what == 1);
        if (state.finders.isEmpty()) {
            return what == 0 ? -1 : 0;
        }
        int most = state.finders.stream().mapToInt(f -> f.owes).max().getAsInt();
        int best = 0;
        while (state.finders.get(best).owes != most) {
            best++;
        }
        return what == 0 ? best : most;
    }

    int empty() {
        return bits(places, p -> state.things.stream().noneMatch(t -> t.holder == -1 && t.lies == p)
                && state.finders.stream().noneMatch(f -> f.spot == p));
    }

    int lucky() {
        return bits(state.finders.size(), f -> {
            for (int t = 0; t < state.things.size(); t++) {
                if (able(state, "find", f, t)) {
                    return true;
                }
            }
            return false;
        });
    }

    int sound(int what) {
        need(what >= 0 && what <= 2);
        return bits(state.finders.size(), f -> {
            int held = heldWorth(f);
            int owes = state.finders.get(f).owes;
            return what == 0 ? held > owes : what == 1 ? held == owes : held < owes;
        });
    }

    int way(int finder, int thing) {
        isFinder(finder);
        isThing(thing);
        return wayTo(finder, thing);
    }

    int burden(int what) {
        need(what == 0 || what == 1);
        int sum = 0;
        for (Finder f : state.finders) {
            if (f.owes > 0 == (what == 0)) {
                sum += Math.abs(f.owes);
            }
        }
        return sum;
    }

    int near(int finder, int what) {
        isFinder(finder);
        need(what == 0 || what == 1);
        int best = -1;
        for (int t = state.things.size() - 1; t >= 0; t--) {
            if (wayTo(finder, t) >= 0 && (best < 0 || wayTo(finder, t) <= wayTo(finder, best))) {
                best = t;
            }
        }
        return what == 0 || best < 0 ? best : wayTo(finder, best);
    }

    int enough(int finder) {
        isFinder(finder);
        return bits(state.things.size(), t -> {
            if (!able(state, "lose", finder, t)) {
                return false;
            }
            State s = state.copy();
            apply(s, "lose", finder, t);
            return s.finders.get(finder).owes == 0;
        });
    }

    private int seed;
    private int finds;

    private int draw(int by) {
        long grown = (seed & 0xffffffffL) * 1103515245L + 12345L;
        seed = (int) grown;
        return (int) (grown >> 16 & 0x7fff) % by;
    }

    private State yearOf(int from, int q, int days) {
        State s = state.copy();
        seed = from;
        finds = 0;
        for (int day = 0; day < days; day++) {
            for (int time = 0; time < 3; time++) {
                if (s.finders.isEmpty() || roads.isEmpty() || s.things.isEmpty()) {
                    continue;
                }
                int f = draw(s.finders.size());
                int r = draw(roads.size());
                int t = draw(s.things.size());
                if (able(s, "walk", f, r)) {
                    apply(s, "walk", f, r);
                }
                if (able(s, "find", f, t)) {
                    apply(s, "find", f, t);
                    finds++;
                } else if (able(s, "lose", f, t)) {
                    apply(s, "lose", f, t);
                }
                boolean slips = draw(16) < q;
                if (slips && able(s, "slip", f, t)) {
                    apply(s, "slip", f, t);
                }
            }
            night(s);
        }
        return s;
    }

    int year(int from, int q, int days, int what) {
        need(q >= 0 && q <= 16 && days >= 1 && days <= 96 && what >= 0 && what <= 3);
        State s = yearOf(from, q, days);
        return what == 0 ? finds : what == 1 ? heldBits(s) : what == 2 ? shames(s) - shames(state) : evenBits(s);
    }

    int span(int from, int many, int q, int days, int what, int finder) {
        need(many >= 1 && many <= 20 && q >= 0 && q <= 16 && days >= 1 && days <= 96 && what >= 0 && what <= 2
                && finder >= 0 && finder < state.finders.size());
        List<Integer> all = new ArrayList<>();
        int even = 0;
        for (int i = 0; i < many; i++) {
            State s = yearOf(from + i, q, days);
            all.add(finds);
            even += s.finders.get(finder).owes == 0 ? 1 : 0;
        }
        return what == 0 ? java.util.Collections.min(all) : what == 1 ? java.util.Collections.max(all) : even;
    }
}
