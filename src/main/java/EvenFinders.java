import java.util.Arrays;
import java.util.NoSuchElementException;

/** A town in which whoever finds a thing must lose another; ../shared/DOC.md says what each call promises. */
public final class EvenFinders {

    public static final int NONE = -1;

    private static final int TAPE_BYTES = 600;
    private static final int FEED_BYTES = 20;
    private static final int LAW_BYTES = 150;
    private static final int WORK_BYTES = 150;
    private static final int BOOK_BYTES = 60;

    private static final int MOST_CLAUSES = 60;
    private static final int MOST_PLACES = 8;
    private static final int MOST_ROADS = 12;
    private static final int MOST_THINGS = 10;
    private static final int MOST_FINDERS = 6;
    private static final int MOST_LENGTH = 9;
    private static final int MOST_WORTH = 60;
    private static final int ALL_WORTH = MOST_THINGS * MOST_WORTH;

    private static final int MOST_OPEN = 6;
    private static final int MOST_TIMES = 30;
    private static final int MOST_BEGUN = 200;
    private static final int MOST_WORKS = 16;
    private static final int MOST_IMAGES = 3;

    private static final int DAY_WALK = 24;
    private static final int LAST_DAY = 400;
    private static final int MOST_DUTY = 99;
    private static final int MOST_CREDIT = 99;
    private static final int YEAR_DAYS = 96;
    // More than any finds of a year, worth of things or pairs left, where the least of some is looked for.
    private static final int ABOVE_ALL = 1000000;

    private static final int FAULT_STANDS = 1;
    private static final int FAULT_NUMBER = 2;
    private static final int FAULT_MANY = 3;
    private static final int FAULT_LESS = 10;
    private static final int WORKS_FULL = -20;

    // Where a row of Days holds what, so that undo and images copy it in one go.
    private static final int DAY = 0;
    private static final int SPOT = 1;
    private static final int OWES = SPOT + MOST_FINDERS;
    private static final int WALKED = OWES + MOST_FINDERS;
    private static final int FOUND = WALKED + MOST_FINDERS;
    private static final int SHAMED = FOUND + MOST_FINDERS;
    private static final int LIES = SHAMED + MOST_FINDERS;
    private static final int HOLDER = LIES + MOST_THINGS;
    private static final int ROW = HOLDER + MOST_THINGS;

    private final Tape tape = new Tape();
    private final Town town = new Town();
    private final Town newTown = new Town();
    private final Law law = new Law();
    private final Law newLaw = new Law();
    private final Book book = new Book();
    private final Book newBook = new Book();
    private final Work work = new Work(town);
    private final Days now = new Days(town, law);
    private final Days later = new Days(town, law);
    private final History history = new History();
    private final Ways ways = new Ways(town, now);
    private final Search search = new Search(town, now, book);
    private final Years years = new Years(town, now, later);
    private int refusedSteps;
    private int unknownCalls;
    private int wrongCalls;

    public EvenFinders() {
    }

    public int feed(int a, int b, int c, int d, int e) {
        if (tape.filled > TAPE_BYTES - FEED_BYTES) {
            return NONE;
        }
        tape.push(a);
        tape.push(b);
        tape.push(c);
        tape.push(d);
        tape.push(e);
        return tape.filled;
    }

    public int town(int n) throws IllegalArgumentException {
        begin(n, TAPE_BYTES);
        newTown.readFrom(tape);
        if (tape.isFaulty()) {
            return tape.fault - FAULT_LESS;
        }
        town.take(newTown);
        law.makePlain();
        book.clear();
        history.clear();
        now.begin();
        refusedSteps = 0;
        return town.things;
    }

    public int law(int n) throws IllegalArgumentException {
        begin(n, LAW_BYTES);
        newLaw.readFrom(tape);
        if (tape.isFaulty()) {
            return tape.fault - FAULT_LESS;
        }
        law.take(newLaw);
        return 1;
    }

    public int work(int n) throws IllegalArgumentException {
        begin(n, WORK_BYTES);
        if (history.works >= MOST_WORKS) {
            return WORKS_FULL;
        }
        work.readFrom(tape);
        if (tape.isFaulty()) {
            return tape.fault - FAULT_LESS;
        }
        history.keepWork(now);
        work.doneBy(now);
        refusedSteps = work.refused;
        return work.done;
    }

    public int book(int n) throws IllegalArgumentException {
        begin(n, BOOK_BYTES);
        newBook.readFrom(tape, town.places);
        if (tape.isFaulty()) {
            return tape.fault - FAULT_LESS;
        }
        book.take(newBook);
        return book.lines;
    }

    public int fault() {
        return tape.faultPlace;
    }

    public int undo() {
        if (!history.takeWorkBack(now)) {
            return NONE;
        }
        refusedSteps = 0;
        return history.works;
    }

    public int told(int what) throws IllegalArgumentException {
        needWithin(what, 0, 11);
        switch (what) {
            case 0: return town.places;
            case 1: return town.roads;
            case 2: return town.things;
            case 3: return town.finders;
            case 4: return now.row[DAY];
            case 5: return now.heldByAll();
            case 6: return now.even();
            case 7: return now.owing();
            case 8: return now.lyingWorth();
            case 9: return book.lines;
            case 10: return refusedSteps;
            default: return now.shames();
        }
    }

    public int place(int place, int what) throws NoSuchElementException, IllegalArgumentException {
        needPlace(place);
        needWithin(what, 0, 3);
        switch (what) {
            case 0: return now.lyingAt(place);
            case 1: return town.worthOf(now.lyingAt(place));
            case 2: return now.findersAt(place);
            default: return town.roadsAt(place);
        }
    }

    public int road(int road, int what) throws NoSuchElementException, IllegalArgumentException {
        need(road, town.roads);
        needWithin(what, 0, 2);
        switch (what) {
            case 0: return town.roadA[road];
            case 1: return town.roadB[road];
            default: return town.roadLength[road];
        }
    }

    public int thing(int thing, int what) throws NoSuchElementException, IllegalArgumentException {
        needThing(thing);
        needWithin(what, 0, 2);
        switch (what) {
            case 0: return town.worth[thing];
            case 1: return now.placeOf(thing);
            default: return now.row[HOLDER + thing];
        }
    }

    public int finder(int finder, int what) throws NoSuchElementException, IllegalArgumentException {
        needFinder(finder);
        needWithin(what, 0, 6);
        switch (what) {
            case 0: return now.row[SPOT + finder];
            case 1: return now.row[OWES + finder];
            case 2: return now.heldBy(finder);
            case 3: return town.worthOf(now.heldBy(finder));
            case 4: return now.row[WALKED + finder];
            case 5: return now.row[FOUND + finder];
            default: return now.row[SHAMED + finder];
        }
    }

    public int duty(int finder, int thing) throws NoSuchElementException {
        needFinder(finder);
        needThing(thing);
        return now.dutyOf(finder, thing);
    }

    public int would(int worth, int owes, int held, int finds, int lying, int day, int shame, int finder)
            throws IllegalArgumentException {
        needWithin(worth, 1, MOST_WORTH);
        needWithin(owes, -MOST_CREDIT, 999);
        needWithin(held, 0, MOST_THINGS);
        needWithin(finds, 0, 999);
        needWithin(lying, 0, MOST_THINGS);
        needWithin(day, 0, LAST_DAY);
        needWithin(shame, 0, 999);
        needWithin(finder, 0, MOST_FINDERS - 1);
        law.given[0] = worth;
        law.given[1] = owes;
        law.given[2] = held;
        law.given[3] = finds;
        law.given[4] = lying;
        law.given[5] = day;
        law.given[6] = shame;
        law.given[7] = finder;
        return law.comesOut();
    }

    public boolean can(int finder, int thing) throws NoSuchElementException {
        needFinder(finder);
        needThing(thing);
        return now.mayFind(finder, thing);
    }

    public int ahead(int n, int what) throws IllegalArgumentException {
        needWithin(n, 0, 99);
        needWithin(what, 0, 2);
        later.take(now);
        for (int night = 0; night < n; night++) {
            later.nightFalls();
        }
        if (what == 0) {
            return later.heldByAll();
        }
        return what == 1 ? later.shames() : later.lyingWorth();
    }

    public int far(int place, int other) throws NoSuchElementException {
        needPlace(place);
        needPlace(other);
        return town.farFrom(place, other);
    }

    public int round(int finder) throws NoSuchElementException {
        needFinder(finder);
        return ways.leastRound(finder);
    }

    public int meet(int what) throws IllegalArgumentException {
        needWithin(what, 0, 1);
        int best = ways.meetingPlace();
        return what == 0 || best == NONE ? best : ways.walkOfAll(best);
    }

    public int reach(int finder) throws NoSuchElementException {
        needFinder(finder);
        return ways.inReach(finder);
    }

    public int settle(int finder) throws NoSuchElementException {
        needFinder(finder);
        return now.leastToBeEven(finder);
    }

    public int parts(int finder, int n) throws NoSuchElementException, IllegalArgumentException {
        needFinder(finder);
        needWithin(n, 0, ALL_WORTH);
        return now.setsWorth(finder, n);
    }

    public int fits(int what) throws IllegalArgumentException {
        needWithin(what, 0, 1);
        search.listPairs();
        if (what == 0) {
            return search.many;
        }
        return search.many > 0 ? search.pairs[0] : NONE;
    }

    public int look(int what) throws IllegalArgumentException {
        needWithin(what, 0, 1);
        search.listPairs();
        int best = search.nextPlace();
        return what == 0 || best == NONE ? best : search.leftAtWorst(best);
    }

    public long pins(int n, int m, int k, int part) throws IllegalArgumentException {
        needWithin(n, 0, 20);
        needWithin(m, 0, n);
        needWithin(k, 0, n);
        needWithin(part, 0, 1);
        return Odds.bentPart(n, m, k, part);
    }

    public int takes(int v, int w, int what) throws IllegalArgumentException {
        needWithin(v, 0, 99);
        needWithin(w, 0, 99);
        needWithin(what, 0, 2);
        if (what == 0) {
            return Odds.rests(v, w);
        }
        int first = Odds.firstRest(v, w);
        if (what == 1) {
            return first;
        }
        return first == NONE ? 0 : Odds.bothHave(first, v, w);
    }

    public int sixpence(int finder, int finders, int n) throws NoSuchElementException, IllegalArgumentException {
        needFinder(finder);
        // A bit above the last FINDER's, the sign too, is the bit of no FINDER.
        needWithin(finders, 0, (1 << town.finders) - 1);
        needWithin(n, 0, 999);
        return now.levelled(finder, finders, n);
    }

    public int greatest(int what) throws IllegalArgumentException {
        needWithin(what, 0, 1);
        int best = now.greatestLying();
        return what == 0 || best == NONE ? best : town.worth[best];
    }

    public int deepest(int what) throws IllegalArgumentException {
        needWithin(what, 0, 1);
        int best = now.deepestOwing();
        if (what == 0) {
            return best;
        }
        return best == NONE ? 0 : now.row[OWES + best];
    }

    public int empty() {
        int bits = 0;
        for (int place = 0; place < town.places; place++) {
            if (now.lyingAt(place) == 0 && now.findersAt(place) == 0) {
                bits |= 1 << place;
            }
        }
        return bits;
    }

    public int lucky() {
        int bits = 0;
        for (int finder = 0; finder < town.finders; finder++) {
            if (now.row[OWES + finder] <= 0 && now.lyingAt(now.row[SPOT + finder]) != 0) {
                bits |= 1 << finder;
            }
        }
        return bits;
    }

    public int sound(int what) throws IllegalArgumentException {
        needWithin(what, 0, 2);
        int bits = 0;
        for (int finder = 0; finder < town.finders; finder++) {
            int over = town.worthOf(now.heldBy(finder)) - now.row[OWES + finder];
            if (what == 0 && over > 0 || what == 1 && over == 0 || what == 2 && over < 0) {
                bits |= 1 << finder;
            }
        }
        return bits;
    }

    public int way(int finder, int thing) throws NoSuchElementException {
        needFinder(finder);
        needThing(thing);
        return ways.wayTo(finder, thing);
    }

    public int burden(int what) throws IllegalArgumentException {
        needWithin(what, 0, 1);
        int sum = 0;
        for (int finder = 0; finder < town.finders; finder++) {
            int owes = now.row[OWES + finder];
            sum += Math.max(0, what == 0 ? owes : -owes);
        }
        return sum;
    }

    public int near(int finder, int what) throws NoSuchElementException, IllegalArgumentException {
        needFinder(finder);
        needWithin(what, 0, 1);
        int best = ways.nearestThing(finder);
        return what == 0 || best == NONE ? best : ways.wayTo(finder, best);
    }

    public int enough(int finder) throws NoSuchElementException {
        needFinder(finder);
        return now.eachEnough(finder);
    }

    public int year(int seed, int q, int days, int what) throws IllegalArgumentException {
        needWithin(q, 0, 16);
        needWithin(days, 1, YEAR_DAYS);
        needWithin(what, 0, 3);
        years.goBy(seed, q, days);
        switch (what) {
            case 0: return years.finds;
            case 1: return later.heldByAll();
            case 2: return later.shames() - now.shames();
            default: return later.even();
        }
    }

    public int span(int seed, int many, int q, int days, int what, int finder) throws IllegalArgumentException {
        needWithin(many, 1, 20);
        needWithin(q, 0, 16);
        needWithin(days, 1, YEAR_DAYS);
        needWithin(what, 0, 2);
        needWithin(finder, 0, town.finders - 1);
        int fewest = ABOVE_ALL;
        int most = 0;
        int even = 0;
        for (int i = 0; i < many; i++) {
            years.goBy(seed + i, q, days);
            fewest = Math.min(fewest, years.finds);
            most = Math.max(most, years.finds);
            if (later.row[OWES + finder] == 0) {
                even++;
            }
        }
        if (what == 0) {
            return fewest;
        }
        return what == 1 ? most : even;
    }

    public int image() {
        return history.keepImage(now) ? history.images : NONE;
    }

    public int restore() {
        if (!history.takeImageBack(now)) {
            return NONE;
        }
        refusedSteps = 0;
        return history.images;
    }

    public int status(int what) {
        if (what == 0) {
            return unknownCalls;
        }
        return what == 1 ? wrongCalls : NONE;
    }

    public int count(int what) {
        switch (what) {
            case 0: return history.images;
            case 1: return tape.filled;
            case 2: return history.works;
            default: return NONE;
        }
    }

    private void begin(int n, int most) {
        needWithin(n, 0, Math.min(most, tape.filled));
        tape.begin(n);
    }

    private void needWithin(int value, int least, int most) {
        if (value < least || value > most) {
            wrongCalls++;
            throw new IllegalArgumentException("a number is out of its range");
        }
    }

    private void need(int number, int many) {
        if (number < 0 || number >= many) {
            unknownCalls++;
            throw new NoSuchElementException("there is none of this number");
        }
    }

    private void needPlace(int place) {
        need(place, town.places);
    }

    private void needThing(int thing) {
        need(thing, town.things);
    }

    private void needFinder(int finder) {
        need(finder, town.finders);
    }

    /** The TAPE, the text that is read off it word by word, and the first FAULT that was met. */
    private static final class Tape {
        final int[] bytes = new int[TAPE_BYTES];
        int filled;
        int fault;
        int faultPlace = NONE;
        int tokenPlace;
        private int length;
        private int at;

        void push(int number) {
            for (int shift = 24; shift >= 0; shift -= 8) {
                if (filled < bytes.length) {
                    bytes[filled] = (number >>> shift) & 255;
                    filled++;
                }
            }
        }

        /** The TAPE counts as empty from here on; what was on it can still be read. */
        void begin(int n) {
            length = Math.max(0, Math.min(n, filled));
            at = 0;
            filled = 0;
            fault = 0;
            faultPlace = NONE;
            tokenPlace = 0;
        }

        boolean isFaulty() {
            return fault != 0;
        }

        /** Reading goes from left to right, so the FAULT that comes first is the one that counts. */
        void fail(int kind, int place) {
            if (fault == 0) {
                fault = kind;
                faultPlace = place;
            }
        }

        /** The byte that comes next, behind blanks; NONE at the end, and behind a FAULT, so that readers stop. */
        int next() {
            while (at < length && bytes[at] == ' ') {
                at++;
            }
            tokenPlace = at;
            return at < length && fault == 0 ? bytes[at] : NONE;
        }

        void needSign(char sign) {
            if (next() == sign) {
                at++;
            } else {
                fail(FAULT_STANDS, at);
            }
        }

        int number(int least, int most) {
            next();
            if (fault != 0) {
                return 0;
            }
            int value = 0;
            while (at < length && isDigit(bytes[at])) {
                // More than any range has, and far from wrapping, however many digits follow.
                value = Math.min(value * 10 + bytes[at] - '0', 10000);
                at++;
            }
            if (at == tokenPlace) {
                fail(FAULT_STANDS, tokenPlace);
            } else if (value < least || value > most) {
                fail(FAULT_NUMBER, tokenPlace);
            }
            return value;
        }

        /** Which word of the list (words parted by one blank each) comes next. */
        int word(String list) {
            next();
            if (fault != 0) {
                return NONE;
            }
            int end = at;
            while (end < length && bytes[end] >= 'a' && bytes[end] <= 'z') {
                end++;
            }
            int which = indexIn(list, end);
            if (which == NONE) {
                fail(FAULT_STANDS, tokenPlace);
            } else {
                at = end;
            }
            return which;
        }

        private int indexIn(String list, int end) {
            int which = 0;
            int place = at;
            boolean same = true;
            for (int i = 0; i < list.length(); i++) {
                char sign = list.charAt(i);
                if (sign != ' ') {
                    same = same && place < end && bytes[place] == sign;
                    place++;
                } else if (same && place == end) {
                    return which;
                } else {
                    which++;
                    place = at;
                    same = true;
                }
            }
            return same && place == end ? which : NONE;
        }

        static boolean isDigit(int sign) {
            return sign >= '0' && sign <= '9';
        }
    }

    /** A TOWN as its text tells it; where finders and things are later is kept by Days. */
    private static final class Town {
        private static final String CLAUSES = "places road thing finder own";
        private static final int CLAUSE_PLACES = 0;
        private static final int CLAUSE_ROAD = 1;
        private static final int CLAUSE_THING = 2;
        private static final int CLAUSE_FINDER = 3;
        private static final int NO_WAY = 1000;

        int places;
        int roads;
        int things;
        int finders;
        final int[] roadA = new int[MOST_ROADS];
        final int[] roadB = new int[MOST_ROADS];
        final int[] roadLength = new int[MOST_ROADS];
        final int[] worth = new int[MOST_THINGS];
        final int[] firstLies = new int[MOST_THINGS];
        final int[] firstHolder = new int[MOST_THINGS];
        final int[] firstSpot = new int[MOST_FINDERS];
        private final int[] far = new int[MOST_PLACES * MOST_PLACES];

        void take(Town other) {
            places = other.places;
            roads = other.roads;
            things = other.things;
            finders = other.finders;
            System.arraycopy(other.roadA, 0, roadA, 0, MOST_ROADS);
            System.arraycopy(other.roadB, 0, roadB, 0, MOST_ROADS);
            System.arraycopy(other.roadLength, 0, roadLength, 0, MOST_ROADS);
            System.arraycopy(other.worth, 0, worth, 0, MOST_THINGS);
            System.arraycopy(other.firstLies, 0, firstLies, 0, MOST_THINGS);
            System.arraycopy(other.firstHolder, 0, firstHolder, 0, MOST_THINGS);
            System.arraycopy(other.firstSpot, 0, firstSpot, 0, MOST_FINDERS);
            measure();
        }

        void readFrom(Tape tape) {
            places = 0;
            roads = 0;
            things = 0;
            finders = 0;
            // The clause behind the last that may be is read as far as its word, where it is one too many.
            for (int clause = 0; clause <= MOST_CLAUSES && tape.next() != NONE; clause++) {
                int word = tape.word(CLAUSES);
                if (word != NONE && (clause == MOST_CLAUSES || isFull(word))) {
                    tape.fail(FAULT_MANY, tape.tokenPlace);
                }
                readClause(tape, word);
                tape.needSign(';');
            }
        }

        private boolean isFull(int word) {
            switch (word) {
                case CLAUSE_PLACES: return false;
                case CLAUSE_ROAD: return roads >= MOST_ROADS;
                case CLAUSE_FINDER: return finders >= MOST_FINDERS;
                default: return things >= MOST_THINGS;
            }
        }

        private void readClause(Tape tape, int word) {
            if (tape.isFaulty()) {
                return;
            }
            switch (word) {
                case CLAUSE_PLACES: readPlaces(tape); break;
                case CLAUSE_ROAD: readRoad(tape); break;
                case CLAUSE_THING: addThing(tape, tape.number(0, places - 1), NONE); break;
                case CLAUSE_FINDER: readFinder(tape); break;
                default: addThing(tape, NONE, tape.number(0, finders - 1)); break;
            }
        }

        private void readPlaces(Tape tape) {
            int more = tape.number(1, MOST_PLACES - places);
            if (!tape.isFaulty()) {
                places += more;
            }
        }

        private void readRoad(Tape tape) {
            int a = tape.number(0, places - 1);
            int b = tape.number(0, places - 1);
            if (a == b) {
                tape.fail(FAULT_NUMBER, tape.tokenPlace);
            }
            int length = tape.number(1, MOST_LENGTH);
            if (!tape.isFaulty() && roads < MOST_ROADS) {
                roadA[roads] = a;
                roadB[roads] = b;
                roadLength[roads] = length;
                roads++;
            }
        }

        private void addThing(Tape tape, int lies, int holder) {
            int value = tape.number(1, MOST_WORTH);
            if (!tape.isFaulty() && things < MOST_THINGS) {
                worth[things] = value;
                firstLies[things] = lies;
                firstHolder[things] = holder;
                things++;
            }
        }

        private void readFinder(Tape tape) {
            int spot = tape.number(0, places - 1);
            if (!tape.isFaulty() && finders < MOST_FINDERS) {
                firstSpot[finders] = spot;
                finders++;
            }
        }

        private void measure() {
            Arrays.fill(far, NO_WAY);
            for (int place = 0; place < places; place++) {
                far[place * MOST_PLACES + place] = 0;
            }
            for (int road = 0; road < roads; road++) {
                shorten(roadA[road], roadB[road], roadLength[road]);
                shorten(roadB[road], roadA[road], roadLength[road]);
            }
            for (int by = 0; by < places; by++) {
                for (int from = 0; from < places; from++) {
                    for (int to = 0; to < places; to++) {
                        shorten(from, to, far[from * MOST_PLACES + by] + far[by * MOST_PLACES + to]);
                    }
                }
            }
        }

        private void shorten(int from, int to, int length) {
            int pair = from * MOST_PLACES + to;
            far[pair] = Math.min(far[pair], length);
        }

        int farFrom(int place, int other) {
            int length = far[place * MOST_PLACES + other];
            return length < NO_WAY ? length : NONE;
        }

        int otherEnd(int road, int place) {
            if (roadA[road] == place) {
                return roadB[road];
            }
            return roadB[road] == place ? roadA[road] : NONE;
        }

        int roadsAt(int place) {
            int many = 0;
            for (int road = 0; road < roads; road++) {
                if (otherEnd(road, place) != NONE) {
                    many++;
                }
            }
            return many;
        }

        int worthOf(int bits) {
            int sum = 0;
            for (int thing = 0; thing < things; thing++) {
                if ((bits >> thing & 1) != 0) {
                    sum += worth[thing];
                }
            }
            return sum;
        }
    }

    /** A LAW, its operands ahead of their signs, so that one row of values does it without recursion. */
    private static final class Law {
        private static final String UNITS = "worth owes held finds lying day shame finder least most";
        private static final int NAMES = 8;
        private static final int UNIT_LEAST = 8;
        // Codes below NAME are numbers, those from SIGN on signs.
        private static final int NAME = 1000;
        private static final int SIGN = 2000;

        final int[] given = new int[NAMES];
        private final int[] codes = new int[LAW_BYTES];
        private final int[] values = new int[LAW_BYTES];
        private int many;

        Law() {
            codes[0] = NAME;
            many = 1;
        }

        void makePlain() {
            codes[0] = NAME;
            many = 1;
        }

        void take(Law other) {
            System.arraycopy(other.codes, 0, codes, 0, LAW_BYTES);
            many = other.many;
        }

        void readFrom(Tape tape) {
            many = 0;
            readSum(tape, 0);
            if (tape.next() != NONE) {
                tape.fail(FAULT_STANDS, tape.tokenPlace);
            }
        }

        private void readSum(Tape tape, int open) {
            readProduct(tape, open);
            for (int i = 0; i < LAW_BYTES; i++) {
                int sign = tape.next();
                if (sign != '+' && sign != '-') {
                    return;
                }
                tape.needSign((char) sign);
                readProduct(tape, open);
                put(SIGN + sign);
            }
        }

        private void readProduct(Tape tape, int open) {
            readUnit(tape, open);
            for (int i = 0; i < LAW_BYTES; i++) {
                int sign = tape.next();
                if (sign != '*' && sign != '/' && sign != '%') {
                    return;
                }
                tape.needSign((char) sign);
                readUnit(tape, open);
                put(SIGN + sign);
            }
        }

        private void readUnit(Tape tape, int open) {
            int sign = tape.next();
            if (sign == '(') {
                readBracket(tape, open);
            } else if (Tape.isDigit(sign)) {
                put(tape.number(0, 999));
            } else {
                int word = tape.word(UNITS);
                if (word >= NAMES) {
                    readPair(tape, open, word == UNIT_LEAST ? '<' : '>');
                } else if (word != NONE) {
                    put(NAME + word);
                }
            }
        }

        private void readBracket(Tape tape, int open) {
            if (open >= MOST_OPEN) {
                tape.fail(FAULT_MANY, tape.tokenPlace);
                return;
            }
            tape.needSign('(');
            readSum(tape, open + 1);
            tape.needSign(')');
        }

        private void readPair(Tape tape, int open, char sign) {
            if (open >= MOST_OPEN) {
                tape.fail(FAULT_MANY, tape.tokenPlace);
                return;
            }
            tape.needSign('[');
            readSum(tape, open + 1);
            tape.needSign(',');
            readSum(tape, open + 1);
            tape.needSign(']');
            put(SIGN + sign);
        }

        private void put(int code) {
            if (many < codes.length) {
                codes[many] = code;
                many++;
            }
        }

        /** DUTY for what is given. */
        int comesOut() {
            int top = 0;
            for (int i = 0; i < many; i++) {
                int code = codes[i];
                if (code >= SIGN && top >= 2) {
                    top--;
                    values[top - 1] = join(code - SIGN, values[top - 1], values[top]);
                } else if (code < SIGN && top < values.length) {
                    values[top] = code < NAME ? code : given[(code - NAME) & (NAMES - 1)];
                    top++;
                }
            }
            return Math.max(0, Math.min(MOST_DUTY, values[0]));
        }

        private static int join(int sign, int a, int b) {
            switch (sign) {
                case '+': return a + b;
                case '-': return a - b;
                case '*': return a * b;
                case '/': return b == 0 ? 0 : a / b;
                case '%': return b == 0 ? 0 : a % b;
                case '<': return a < b ? a : b;
                default: return a > b ? a : b;
            }
        }
    }

    /** What lies at some PLACES together, as a BOOK tells it. */
    private static final class Book {
        int lines;
        final int[] worthAt = new int[MOST_PLACES];

        Book() {
            Arrays.fill(worthAt, NONE);
        }

        void clear() {
            lines = 0;
            Arrays.fill(worthAt, NONE);
        }

        void take(Book other) {
            lines = other.lines;
            System.arraycopy(other.worthAt, 0, worthAt, 0, MOST_PLACES);
        }

        void readFrom(Tape tape, int places) {
            clear();
            for (int line = 0; line < BOOK_BYTES && tape.next() != NONE; line++) {
                int place = tape.number(0, places - 1);
                if (!tape.isFaulty() && worthAt[place] != NONE) {
                    tape.fail(FAULT_NUMBER, tape.tokenPlace);
                }
                int worth = tape.number(0, ALL_WORTH);
                tape.needSign(';');
                if (!tape.isFaulty()) {
                    worthAt[place] = worth;
                    lines++;
                }
            }
        }
    }

    /** A WORK: its STEPS as they stand, each again with where its own end. */
    private static final class Work {
        private static final String STEPS = "walk find lose slip night again";
        private static final int WALK = 0;
        private static final int FIND = 1;
        private static final int LOSE = 2;
        private static final int SLIP = 3;
        private static final int NIGHT = 4;
        private static final int AGAIN = 5;

        int done;
        int refused;
        private int begun;
        private int many;
        private final Town town;
        private final int[] kind = new int[WORK_BYTES];
        private final int[] first = new int[WORK_BYTES];
        private final int[] second = new int[WORK_BYTES];

        Work(Town town) {
            this.town = town;
        }

        void readFrom(Tape tape) {
            many = 0;
            for (int step = 0; step < WORK_BYTES && tape.next() != NONE; step++) {
                readStep(tape, 0);
            }
        }

        private void readStep(Tape tape, int open) {
            int word = tape.word(STEPS);
            if (word == AGAIN) {
                readAgain(tape, open);
            } else if (word == NIGHT) {
                put(NIGHT, 0, 0);
            } else if (word != NONE) {
                int finder = tape.number(0, town.finders - 1);
                put(word, finder, tape.number(0, (word == WALK ? town.roads : town.things) - 1));
            }
            tape.needSign(';');
        }

        private void readAgain(Tape tape, int open) {
            if (open >= MOST_OPEN) {
                tape.fail(FAULT_MANY, tape.tokenPlace);
                return;
            }
            int again = many;
            put(AGAIN, tape.number(0, MOST_TIMES), 0);
            tape.needSign('[');
            for (int step = 0; step < WORK_BYTES && tape.next() != NONE && tape.next() != ']'; step++) {
                readStep(tape, open + 1);
            }
            tape.needSign(']');
            if (again < second.length) {
                second[again] = many;
            }
        }

        private void put(int word, int a, int b) {
            if (many < kind.length) {
                kind[many] = word;
                first[many] = a;
                second[many] = b;
                many++;
            }
        }

        void doneBy(Days days) {
            begun = 0;
            done = 0;
            refused = 0;
            doSteps(days, 0, many, 0);
        }

        private void doSteps(Days days, int from, int to, int open) {
            if (open > MOST_OPEN) {
                return;
            }
            int at = from;
            while (at < to && begun < MOST_BEGUN) {
                begun++;
                int step = at;
                at++;
                if (kind[step] == AGAIN) {
                    for (int time = 0; time < first[step] && begun < MOST_BEGUN; time++) {
                        doSteps(days, step + 1, second[step], open + 1);
                    }
                    at = Math.max(at, second[step]);
                } else if (isDone(days, kind[step], first[step], second[step])) {
                    done++;
                } else {
                    refused++;
                }
            }
        }

        private static boolean isDone(Days days, int word, int a, int b) {
            switch (word) {
                case WALK: return days.walks(a, b);
                case FIND: return days.finds(a, b);
                case LOSE: return days.loses(a, b);
                case SLIP: return days.slips(a, b);
                default: return days.nightComes();
            }
        }
    }

    /** All that STEPS change, in one row. */
    private static final class Days {
        final int[] row = new int[ROW];
        private final int[] purses = new int[MOST_FINDERS];
        private final Town town;
        private final Law law;

        Days(Town town, Law law) {
            this.town = town;
            this.law = law;
        }

        void begin() {
            Arrays.fill(row, 0);
            System.arraycopy(town.firstSpot, 0, row, SPOT, MOST_FINDERS);
            System.arraycopy(town.firstLies, 0, row, LIES, MOST_THINGS);
            System.arraycopy(town.firstHolder, 0, row, HOLDER, MOST_THINGS);
        }

        void take(Days other) {
            System.arraycopy(other.row, 0, row, 0, ROW);
        }

        boolean walks(int finder, int road) {
            int end = town.otherEnd(road, row[SPOT + finder]);
            int walked = row[WALKED + finder] + town.roadLength[road];
            if (end == NONE || walked > DAY_WALK) {
                return false;
            }
            row[SPOT + finder] = end;
            row[WALKED + finder] = walked;
            return true;
        }

        boolean mayFind(int finder, int thing) {
            return row[LIES + thing] == row[SPOT + finder] && row[OWES + finder] <= 0;
        }

        boolean finds(int finder, int thing) {
            if (!mayFind(finder, thing)) {
                return false;
            }
            row[OWES + finder] += dutyOf(finder, thing);
            row[FOUND + finder]++;
            row[LIES + thing] = NONE;
            row[HOLDER + thing] = finder;
            return true;
        }

        boolean loses(int finder, int thing) {
            if (row[HOLDER + thing] != finder || row[OWES + finder] <= 0) {
                return false;
            }
            row[OWES + finder] = Math.max(0, row[OWES + finder] - town.worth[thing]);
            drop(finder, thing);
            return true;
        }

        boolean slips(int finder, int thing) {
            if (row[HOLDER + thing] != finder) {
                return false;
            }
            row[OWES + finder] = Math.max(-MOST_CREDIT, row[OWES + finder] - town.worth[thing]);
            drop(finder, thing);
            return true;
        }

        private void drop(int finder, int thing) {
            row[LIES + thing] = row[SPOT + finder];
            row[HOLDER + thing] = NONE;
        }

        boolean nightComes() {
            if (row[DAY] >= LAST_DAY) {
                return false;
            }
            nightFalls();
            return true;
        }

        /** A night that no last DAY stops. */
        void nightFalls() {
            for (int finder = 0; finder < town.finders; finder++) {
                row[WALKED + finder] = 0;
                if (row[OWES + finder] > 0) {
                    row[SHAMED + finder]++;
                    int least = leastHeld(finder);
                    if (least != NONE) {
                        drop(finder, least);
                    }
                }
            }
            row[DAY]++;
        }

        private int leastHeld(int finder) {
            int least = NONE;
            for (int thing = 0; thing < town.things; thing++) {
                if (row[HOLDER + thing] == finder && (least == NONE || town.worth[thing] < town.worth[least])) {
                    least = thing;
                }
            }
            return least;
        }

        int dutyOf(int finder, int thing) {
            law.given[0] = town.worth[thing];
            law.given[1] = row[OWES + finder];
            law.given[2] = Integer.bitCount(heldBy(finder));
            law.given[3] = row[FOUND + finder];
            law.given[4] = Integer.bitCount(lyingAt(row[SPOT + finder]));
            law.given[5] = row[DAY];
            law.given[6] = row[SHAMED + finder];
            law.given[7] = finder;
            return law.comesOut();
        }

        int placeOf(int thing) {
            int holder = row[HOLDER + thing];
            return holder == NONE ? row[LIES + thing] : row[SPOT + holder];
        }

        int heldBy(int finder) {
            int bits = 0;
            for (int thing = 0; thing < town.things; thing++) {
                if (row[HOLDER + thing] == finder) {
                    bits |= 1 << thing;
                }
            }
            return bits;
        }

        int heldByAll() {
            int all = (1 << town.things) - 1;
            return all & ~heldBy(NONE);
        }

        int lyingWorth() {
            return town.worthOf(heldBy(NONE));
        }

        int lyingAt(int place) {
            int bits = 0;
            for (int thing = 0; thing < town.things; thing++) {
                if (row[LIES + thing] == place) {
                    bits |= 1 << thing;
                }
            }
            return bits;
        }

        int findersAt(int place) {
            int bits = 0;
            for (int finder = 0; finder < town.finders; finder++) {
                if (row[SPOT + finder] == place) {
                    bits |= 1 << finder;
                }
            }
            return bits;
        }

        int even() {
            int bits = 0;
            for (int finder = 0; finder < town.finders; finder++) {
                if (row[OWES + finder] == 0) {
                    bits |= 1 << finder;
                }
            }
            return bits;
        }

        int owing() {
            int bits = 0;
            for (int finder = 0; finder < town.finders; finder++) {
                if (row[OWES + finder] > 0) {
                    bits |= 1 << finder;
                }
            }
            return bits;
        }

        int shames() {
            int sum = 0;
            for (int finder = 0; finder < town.finders; finder++) {
                sum += row[SHAMED + finder];
            }
            return sum;
        }

        int greatestLying() {
            int best = NONE;
            for (int thing = 0; thing < town.things; thing++) {
                if (row[HOLDER + thing] == NONE && (best == NONE || town.worth[thing] > town.worth[best])) {
                    best = thing;
                }
            }
            return best;
        }

        int deepestOwing() {
            int best = NONE;
            for (int finder = 0; finder < town.finders; finder++) {
                if (best == NONE || row[OWES + finder] > row[OWES + best]) {
                    best = finder;
                }
            }
            return best;
        }

        int leastToBeEven(int finder) {
            int owes = row[OWES + finder];
            if (owes <= 0) {
                return 0;
            }
            int held = heldBy(finder);
            int best = NONE;
            int bestRank = ABOVE_ALL;
            for (int set = 1; set <= held; set++) {
                if ((set & ~held) == 0) {
                    int worth = town.worthOf(set);
                    // WORTH decides, then how many; sets come by their bits, so of alike ones the first stays.
                    int rank = worth * (MOST_THINGS + 1) + Integer.bitCount(set);
                    if (worth >= owes && rank < bestRank) {
                        best = set;
                        bestRank = rank;
                    }
                }
            }
            return best;
        }

        int setsWorth(int finder, int n) {
            int held = heldBy(finder);
            int many = 0;
            for (int set = 0; set <= held; set++) {
                if ((set & ~held) == 0 && town.worthOf(set) == n) {
                    many++;
                }
            }
            return many;
        }

        int eachEnough(int finder) {
            int owes = row[OWES + finder];
            int bits = 0;
            for (int thing = 0; thing < town.things && owes > 0; thing++) {
                if (row[HOLDER + thing] == finder && town.worth[thing] >= owes) {
                    bits |= 1 << thing;
                }
            }
            return bits;
        }

        int levelled(int finder, int finders, int n) {
            if ((finders >> finder & 1) == 0) {
                return 0;
            }
            for (int other = 0; other < town.finders; other++) {
                purses[other] = (finders >> other & 1) == 0 ? 0 : town.worthOf(heldBy(other));
            }
            int bound = 0;
            while (bound < ALL_WORTH && givenBy(bound + 1) <= n) {
                bound++;
            }
            return Math.min(bound, purses[finder]);
        }

        private int givenBy(int bound) {
            int sum = 0;
            for (int finder = 0; finder < town.finders; finder++) {
                sum += Math.min(bound, purses[finder]);
            }
            return sum;
        }
    }

    /** The rows of Days to which undo() and restore() go back. */
    private static final class History {
        private static final int IMAGE_ROWS = (1 + MOST_WORKS) * ROW;

        int works;
        int images;
        private final int[] workRows = new int[MOST_WORKS * ROW];
        private final int[] imageRows = new int[MOST_IMAGES * IMAGE_ROWS];
        private final int[] imageWorks = new int[MOST_IMAGES];

        void clear() {
            works = 0;
            images = 0;
        }

        void keepWork(Days days) {
            if (works < MOST_WORKS) {
                System.arraycopy(days.row, 0, workRows, works * ROW, ROW);
                works++;
            }
        }

        boolean takeWorkBack(Days days) {
            if (works <= 0) {
                return false;
            }
            works--;
            System.arraycopy(workRows, works * ROW, days.row, 0, ROW);
            return true;
        }

        boolean keepImage(Days days) {
            if (images >= MOST_IMAGES) {
                return false;
            }
            int from = images * IMAGE_ROWS;
            System.arraycopy(days.row, 0, imageRows, from, ROW);
            System.arraycopy(workRows, 0, imageRows, from + ROW, works * ROW);
            imageWorks[images] = works;
            images++;
            return true;
        }

        boolean takeImageBack(Days days) {
            if (images <= 0) {
                return false;
            }
            images--;
            int from = images * IMAGE_ROWS;
            works = imageWorks[images];
            System.arraycopy(imageRows, from, days.row, 0, ROW);
            System.arraycopy(imageRows, from + ROW, workRows, 0, works * ROW);
            return true;
        }
    }

    /** What is asked of ways. */
    private static final class Ways {
        private static final int NO_WAY = 1000000;

        private final Town town;
        private final Days now;
        // The shortest way by a set of PLACES that ends at one of them.
        private final int[] shortest = new int[(1 << MOST_PLACES) * MOST_PLACES];

        Ways(Town town, Days now) {
            this.town = town;
            this.now = now;
        }

        int wayTo(int finder, int thing) {
            int place = now.row[LIES + thing];
            return place == NONE ? NONE : town.farFrom(now.row[SPOT + finder], place);
        }

        int nearestThing(int finder) {
            int best = NONE;
            int least = NO_WAY;
            for (int thing = 0; thing < town.things; thing++) {
                int length = wayTo(finder, thing);
                if (length != NONE && length < least) {
                    best = thing;
                    least = length;
                }
            }
            return best;
        }

        int inReach(int finder) {
            int bits = 0;
            for (int thing = 0; thing < town.things; thing++) {
                int length = wayTo(finder, thing);
                if (length != NONE && now.row[WALKED + finder] + length <= DAY_WALK) {
                    bits |= 1 << thing;
                }
            }
            return bits;
        }

        int walkOfAll(int place) {
            int sum = 0;
            for (int finder = 0; finder < town.finders; finder++) {
                int length = town.farFrom(now.row[SPOT + finder], place);
                if (length == NONE) {
                    return NONE;
                }
                sum += length;
            }
            return sum;
        }

        int meetingPlace() {
            int best = NONE;
            int least = NO_WAY;
            for (int place = 0; place < town.places && town.finders > 0; place++) {
                int length = walkOfAll(place);
                if (length != NONE && length < least) {
                    best = place;
                    least = length;
                }
            }
            return best;
        }

        int leastRound(int finder) {
            int start = now.row[SPOT + finder];
            int goals = goalsFrom(start);
            Arrays.fill(shortest, NO_WAY);
            shortest[start] = 0;
            for (int seen = 0; seen < goals; seen++) {
                for (int last = 0; last < town.places && (seen & ~goals) == 0; last++) {
                    lengthen(seen, last, goals);
                }
            }
            int least = NO_WAY;
            for (int last = 0; last < town.places; last++) {
                least = Math.min(least, shortest[goals * MOST_PLACES + last]);
            }
            return least < NO_WAY ? least : NONE;
        }

        private int goalsFrom(int start) {
            int bits = 0;
            for (int place = 0; place < town.places; place++) {
                if (place != start && now.lyingAt(place) != 0) {
                    bits |= 1 << place;
                }
            }
            return bits;
        }

        private void lengthen(int seen, int last, int goals) {
            int length = shortest[seen * MOST_PLACES + last];
            if (length >= NO_WAY) {
                return;
            }
            int ahead = goals & ~seen;
            for (int place = 0; place < town.places; place++) {
                int more = town.farFrom(last, place);
                if ((ahead >> place & 1) != 0 && more != NONE) {
                    int then = (seen | 1 << place) * MOST_PLACES + place;
                    shortest[then] = Math.min(shortest[then], length + more);
                }
            }
        }
    }

    /** Where a THING could have been lost, by the BOOK. */
    private static final class Search {
        // A pair is 10 times the THING, and the PLACE.
        private static final int PAIR = 10;

        int many;
        final int[] pairs = new int[MOST_THINGS * MOST_PLACES];
        private final Town town;
        private final Days now;
        private final Book book;
        private final int[] lying = new int[MOST_PLACES];
        private final int[] tally = new int[ALL_WORTH + 1];

        Search(Town town, Days now, Book book) {
            this.town = town;
            this.now = now;
            this.book = book;
        }

        void listPairs() {
            for (int place = 0; place < town.places; place++) {
                lying[place] = town.worthOf(now.lyingAt(place));
            }
            many = 0;
            for (int thing = 0; thing < town.things; thing++) {
                for (int place = 0; place < town.places; place++) {
                    int pair = thing * PAIR + place;
                    if (isRight(pair) && many < pairs.length) {
                        pairs[many] = pair;
                        many++;
                    }
                }
            }
        }

        private boolean isRight(int pair) {
            for (int place = 0; place < town.places; place++) {
                if (book.worthAt[place] != NONE && book.worthAt[place] != worthThen(place, pair)) {
                    return false;
                }
            }
            return true;
        }

        private int worthThen(int place, int pair) {
            int thing = pair / PAIR;
            int worth = lying[place];
            if (now.row[LIES + thing] == place) {
                worth -= town.worth[thing];
            }
            return pair % PAIR == place ? worth + town.worth[thing] : worth;
        }

        int nextPlace() {
            int best = NONE;
            int least = ABOVE_ALL;
            for (int place = 0; place < town.places; place++) {
                if (book.worthAt[place] == NONE) {
                    int left = leftAtWorst(place);
                    if (left < least) {
                        best = place;
                        least = left;
                    }
                }
            }
            return best;
        }

        int leftAtWorst(int place) {
            Arrays.fill(tally, 0);
            int most = 0;
            for (int i = 0; i < many; i++) {
                int worth = worthThen(place, pairs[i]);
                if (worth >= 0 && worth < tally.length) {
                    tally[worth]++;
                    most = Math.max(most, tally[worth]);
                }
            }
            return most;
        }
    }

    /** PINS, and two AT ONE find. */
    private static final class Odds {
        private static final int[] DEEDS = {0, 1, 10, 11};

        static long bentPart(int n, int m, int k, int part) {
            long all = choose(n, k);
            long bent = all - choose(n - m, k);
            long common = commonPart(bent, all);
            if (common == 0) {
                return part;
            }
            return (part == 0 ? bent : all) / common;
        }

        private static long choose(int n, int k) {
            if (k > n) {
                return 0;
            }
            long many = 1;
            for (int i = 1; i <= k; i++) {
                many = many * (n - k + i) / i;
            }
            return many;
        }

        private static long commonPart(long a, long b) {
            long one = a;
            long other = b;
            // Euclid's steps for numbers of 18 bits are some thirty.
            for (int i = 0; i < 100 && other != 0; i++) {
                long rest = one % other;
                one = other;
                other = rest;
            }
            return one;
        }

        /** What he has who does the one thing (0 takes it, 1 goes by), the other one doing the other. */
        private static int has(int deed, int other, int v, int w) {
            if (deed == 1) {
                return 0;
            }
            return other == 0 ? -w : v - w;
        }

        private static boolean isRest(int deeds, int v, int w) {
            int one = deeds / 10;
            int other = deeds % 10;
            return has(one, other, v, w) >= has(1 - one, other, v, w)
                    && has(other, one, v, w) >= has(1 - other, one, v, w);
        }

        static int rests(int v, int w) {
            int many = 0;
            for (int deeds : DEEDS) {
                if (isRest(deeds, v, w)) {
                    many++;
                }
            }
            return many;
        }

        static int firstRest(int v, int w) {
            for (int deeds : DEEDS) {
                if (isRest(deeds, v, w)) {
                    return deeds;
                }
            }
            return NONE;
        }

        static int bothHave(int deeds, int v, int w) {
            int one = deeds / 10;
            int other = deeds % 10;
            return has(one, other, v, w) + has(other, one, v, w);
        }
    }

    /** YEARS by a SEED, lived through on a copy of now. */
    private static final class Years {
        private static final int TIMES = 3;
        private static final int SLIPS_OF = 16;

        int finds;
        private int seed;
        private final Town town;
        private final Days now;
        private final Days later;

        Years(Town town, Days now, Days later) {
            this.town = town;
            this.now = now;
            this.later = later;
        }

        void goBy(int firstSeed, int q, int days) {
            later.take(now);
            seed = firstSeed;
            finds = 0;
            boolean drawn = town.finders > 0 && town.roads > 0 && town.things > 0;
            for (int day = 0; day < days; day++) {
                for (int time = 0; time < TIMES && drawn; time++) {
                    goOneTime(q);
                }
                later.nightFalls();
            }
        }

        private void goOneTime(int q) {
            int finder = draw(town.finders);
            int road = draw(town.roads);
            int thing = draw(town.things);
            later.walks(finder, road);
            if (later.finds(finder, thing)) {
                finds++;
            } else {
                later.loses(finder, thing);
            }
            if (draw(SLIPS_OF) < q) {
                later.slips(finder, thing);
            }
        }

        private int draw(int by) {
            seed = seed * 1103515245 + 12345;
            return by > 0 ? (seed >>> 16 & 32767) % by : 0;
        }
    }
}
