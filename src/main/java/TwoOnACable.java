/** Two cabins at the ends of a wire that whirl; ../shared/DOC.md says what each call answers. */
public final class TwoOnACable {
    public static final int NONE = -1, UNKNOWN = -101, OUTSIDE = -102, STATE = -103, FULL = -104;

    private static final int MOST_LETTERS = 12, LEAST_WIRE_LETTERS = 8;
    private static final int BYTES = 8, HIGHEST_LETTER = 126;
    private static final int SHORTEST = 10, LONGEST = 40, MOST_SPIN = 14400;
    private static final int CIRCLE = 360, PLACE_A_TURN = 10;
    private static final int DOOR = 90, REACH = 5, LAST_LETTING_GO = 98, LONGEST_FLIGHT = 99;
    private static final int CABINS = 2, EMPTY_CABIN = 10;
    private static final int MOST_THINGS = 6, HEAVIEST = 20;
    private static final int THING = 0, COOK = 1, GUEST = 2, LIVE = 3, HENS = 4;
    private static final int COOK_MORE = 2, GROWING_HOURS = 6, GUEST_TURNS = 2;
    private static final int MOST_WOUND = 3, WAYS = 7;
    private static final int SEARCHED_HOURS = 12, HIGHEST_FLOOR = 9999;
    private static final int MOST_TOLD = 6, MOST_TOLD_TURNS = 99;
    private static final int HUNDRED = 100, LASTING_HOURS = 4;
    private static final int WHIRLED_HOURS = 60, SEED_PART = 65536;
    private static final long SEED_TIMES = 1103515245L, SEED_MORE = 12345L, SEED_REST = 1L << 31;
    private static final int COUNTS = 13, DIGEST_START = 683, DIGEST_FLOOR = 100, DIGEST_HOURS = 2;

    private final Page page;
    private final Cable cable;
    private final Load load;
    private final Told told;
    private final Evening evening;
    private final Search search;
    private final Cable trial;
    private final Cable keptCable;
    private boolean isKept;
    private int reads;

    public TwoOnACable() {
        page = new Page();
        cable = new Cable();
        load = new Load();
        told = new Told();
        evening = new Evening();
        search = new Search();
        trial = new Cable();
        keptCable = new Cable();
    }

    // ---- the wire

    public int letters(long w) {
        int many = lettersIn(w);
        if (many < 0) {
            return OUTSIDE;
        }
        if (!page.hasRoomFor(many)) {
            return FULL;
        }
        for (int i = 0; i < many; i++) {
            page.put((char) byteOf(w, i));
        }
        return page.size;
    }

    public int blank() {
        return page.emptied();
    }

    public int fault() {
        return page.firstWrong();
    }

    public int wire() {
        if (!page.isWire()) {
            return STATE;
        }
        cable.hang(page);
        page.emptied();
        load.cutTo(0);
        told.emptied();
        // The image belongs to the wire that is gone, even if the new one has the same text.
        isKept = false;
        reads++;
        return cable.spin;
    }

    public int cabin(int cabin, int what) {
        if (!isCabin(cabin)) {
            return UNKNOWN;
        }
        if (what < 0 || what > 3) {
            return OUTSIDE;
        }
        if (!cable.isThere()) {
            return STATE;
        }
        switch (what) {
            case 0:
                return load.weighsIn(cabin, cable.hours);
            case 1:
                return cable.armNow(cabin, load);
            case 2:
                return cable.floorNow(cabin, load);
            default:
                return load.sizeIn(cabin);
        }
    }

    // ---- things

    public int thing(int kind, int weight, int cabin) {
        if (!isCabin(cabin)) {
            return UNKNOWN;
        }
        if (!isKind(kind) || weight < 1 || weight > HEAVIEST) {
            return OUTSIDE;
        }
        if (!cable.isThere()) {
            return STATE;
        }
        if (load.isFull()) {
            return FULL;
        }
        return load.put(newThing(kind, weight, cabin, cable.hours));
    }

    public int about(int thing, int what) {
        Thing one = load.at(thing);
        if (one == null) {
            return UNKNOWN;
        }
        switch (what) {
            case 0:
                return one.kind();
            case 1:
                return one.weight;
            case 2:
                return one.place;
            case 3:
                return one.weighs(cable.hours);
            case 4:
                return one.hoursHere(cable.hours);
            default:
                return OUTSIDE;
        }
    }

    public int as(int thing, int kind) {
        Thing one = load.at(thing);
        if (one == null) {
            return UNKNOWN;
        }
        if (!isKind(kind)) {
            return OUTSIDE;
        }
        return isOfKind(one, kind) ? thing : NONE;
    }

    public int carry(int thing) {
        Thing one = load.at(thing);
        if (one == null) {
            return UNKNOWN;
        }
        if (!cable.isWhole() || !one.goesAcross(cable.turnsNow())) {
            return STATE;
        }
        one.place = 1 - one.place;
        return one.place;
    }

    // ---- hours

    public int hour(int by) {
        if (by < -MOST_WOUND || by > MOST_WOUND) {
            return OUTSIDE;
        }
        if (!cable.isWhole() || !isLength(cable.length - by)) {
            return STATE;
        }
        cable.goHour(by, load);
        return cable.broken ? NONE : cable.length;
    }

    public int even(int what) {
        if (what < 0 || what > 1) {
            return OUTSIDE;
        }
        if (!cable.isWhole()) {
            return STATE;
        }
        evening.find(cable, load);
        return what == 0 ? evening.apart : evening.bits;
    }

    public int soonest(int floor, int what) {
        if (floor < 1 || floor > HIGHEST_FLOOR || what < 0 || what > 1) {
            return OUTSIDE;
        }
        if (!cable.isWhole()) {
            return STATE;
        }
        search.find(cable, load, floor);
        return what == 0 ? search.hours : search.first;
    }

    public int caught(int hours) {
        if (hours < 1 || hours > LONGEST_FLIGHT) {
            return OUTSIDE;
        }
        if (!cable.isWhole()) {
            return STATE;
        }
        int turns = cable.turnsNow();
        int wanted = Math.floorMod(DOOR - hours * turns, CIRCLE);
        for (int wait = 0; wait <= LAST_LETTING_GO; wait++) {
            if (apartOnCircle(cable.placeAfter(wait), wanted) <= REACH) {
                return wait;
            }
        }
        return NONE;
    }

    // ---- what it was

    public int weighed(int length, int turns) {
        if (!isLength(length) || turns < 0 || turns > MOST_TOLD_TURNS) {
            return OUTSIDE;
        }
        if (!cable.isThere()) {
            return STATE;
        }
        if (told.isFull()) {
            return FULL;
        }
        return told.put(length, turns);
    }

    public int forget() {
        return told.emptied();
    }

    public int fits(int what) {
        if (what < 0 || what > 2) {
            return OUTSIDE;
        }
        int least = told.leastSpin();
        int greatest = told.greatestSpin();
        if (what == 0) {
            return least > greatest ? 0 : greatest - least + 1;
        }
        if (least > greatest) {
            return NONE;
        }
        return what == 1 ? least : greatest;
    }

    public long lasts(int hours, int part) {
        if (hours < 1 || hours > LASTING_HOURS || part < 0 || part > 1) {
            return OUTSIDE;
        }
        if (!cable.isWhole()) {
            return STATE;
        }
        int holding = HUNDRED - cable.breakingHundredths(cable.strainNow(load));
        // A fraction in lowest terms stays so when it is taken times itself.
        int base = part == 0 ? reduced(holding, HUNDRED) : reduced(HUNDRED, holding);
        return power(base, hours);
    }

    public int whirls(int hours, int seed, int what) {
        if (hours < 1 || hours > WHIRLED_HOURS || seed < 0 || what < 0 || what > 3) {
            return OUTSIDE;
        }
        if (!cable.isWhole()) {
            return STATE;
        }
        int seedThen = tryHours(hours, seed);
        switch (what) {
            case 0:
                return trial.length;
            case 1:
                return trial.place;
            case 2:
                return trial.hours - cable.hours;
            default:
                return seedThen;
        }
    }

    // ---- what is told of all

    public int image() {
        if (!cable.isThere()) {
            return STATE;
        }
        keptCable.becomeLike(cable);
        load.keepPlaces();
        isKept = true;
        return cable.hours;
    }

    public int restore() {
        if (!isKept) {
            return STATE;
        }
        cable.becomeLike(keptCable);
        load.goBack();
        return cable.hours;
    }

    public int count(int what) {
        switch (what) {
            case 0:
                return cable.length;
            case 1:
                return cable.turnsNow();
            case 2:
                return cable.spin;
            case 3:
                return cable.strainNow(load);
            case 4:
                return cable.bears;
            case 5:
                return cable.old ? 1 : 0;
            case 6:
                return cable.place;
            case 7:
                return cable.hours;
            case 8:
                return cable.broken ? 1 : 0;
            case 9:
                return load.size;
            case 10:
                return page.size;
            case 11:
                return reads;
            case 12:
                return told.size;
            default:
                return OUTSIDE;
        }
    }

    public long digest() {
        long h = DIGEST_START;
        if (cable.isThere()) {
            h = withCabins(h);
        }
        h = withThings(h);
        if (cable.isWhole()) {
            h = withOutlook(h);
        }
        for (int what = 0; what <= 2; what++) {
            h = mixed(h, fits(what));
        }
        for (int i = 0; i < page.size; i++) {
            h = mixed(h, page.at(i));
        }
        for (int what = 0; what < COUNTS; what++) {
            h = mixed(h, count(what));
        }
        return h;
    }

    private long withCabins(long start) {
        long h = start;
        for (int cabin = 0; cabin < CABINS; cabin++) {
            for (int what = 0; what <= 3; what++) {
                h = mixed(h, cabin(cabin, what));
            }
        }
        return h;
    }

    private long withThings(long start) {
        long h = start;
        for (int thing = 0; thing < load.size; thing++) {
            for (int what = 0; what <= 4; what++) {
                h = mixed(h, about(thing, what));
            }
        }
        return h;
    }

    private long withOutlook(long start) {
        long h = start;
        for (int what = 0; what <= 1; what++) {
            h = mixed(h, even(what));
        }
        for (int what = 0; what <= 1; what++) {
            h = mixed(h, soonest(DIGEST_FLOOR, what));
        }
        for (int part = 0; part <= 1; part++) {
            h = mixed(h, lasts(DIGEST_HOURS, part));
        }
        return h;
    }

    /** WHIRLS on a cable of its own, so that THE WIRE stays as it is; the SEED then. */
    private int tryHours(int hours, int start) {
        trial.becomeLike(cable);
        int seed = start;
        for (int i = 0; i < hours && !trial.broken; i++) {
            seed = nextSeed(seed);
            int by = windingOf(seed / SEED_PART % WAYS);
            trial.goHour(isLength(trial.length - by) ? by : 0, load);
        }
        return seed;
    }

    private static int nextSeed(int seed) {
        return (int) ((SEED_TIMES * seed + SEED_MORE) % SEED_REST);
    }

    private static long mixed(long h, long number) {
        return 31 * h + number;
    }

    private static int byteOf(long w, int i) {
        return (int) (w >>> (8 * i)) & 255;
    }

    /** How many letters the bytes tell; NONE if they tell none rightly. */
    private static int lettersIn(long w) {
        int many = 0;
        boolean ended = false;
        for (int i = 0; i < BYTES; i++) {
            int code = byteOf(w, i);
            if (code > HIGHEST_LETTER || (ended && code != 0)) {
                return NONE;
            }
            if (code == 0) {
                ended = true;
            } else {
                many++;
            }
        }
        return many;
    }

    private static boolean isCabin(int cabin) {
        return cabin >= 0 && cabin < CABINS;
    }

    private static boolean isKind(int kind) {
        return kind >= THING && kind <= HENS;
    }

    private static boolean isLength(int length) {
        return length >= SHORTEST && length <= LONGEST;
    }

    private static int apartOnCircle(int one, int other) {
        int oneWay = Math.floorMod(one - other, CIRCLE);
        return Math.min(oneWay, CIRCLE - oneWay);
    }

    /** Every way of an HOUR has a number: 0 stays, 1 to 3 wound in, 4 to 6 let out; this is hour()'s by. */
    private static int windingOf(int way) {
        return way <= MOST_WOUND ? way : MOST_WOUND - way;
    }

    /** Neither is above HUNDRED, so nothing above it divides both. */
    private static int reduced(int number, int other) {
        for (int by = HUNDRED; by > 1; by--) {
            if (number % by == 0 && other % by == 0) {
                return number / by;
            }
        }
        return number;
    }

    private static long power(int base, int times) {
        long product = 1;
        for (int i = 0; i < times; i++) {
            product *= base;
        }
        return product;
    }

    private static Thing newThing(int kind, int weight, int cabin, int hours) {
        switch (kind) {
            case COOK:
                return new Cook(weight, cabin, hours);
            case GUEST:
                return new Guest(weight, cabin, hours);
            case LIVE:
                return new Live(weight, cabin, hours);
            case HENS:
                return new Hens(weight, cabin, hours);
            default:
                return new Thing(weight, cabin, hours);
        }
    }

    private static boolean isOfKind(Thing thing, int kind) {
        switch (kind) {
            case COOK:
                return thing instanceof Cook;
            case GUEST:
                return thing instanceof Guest;
            case LIVE:
                return thing instanceof Live;
            case HENS:
                return thing instanceof Hens;
            default:
                return kind == THING;
        }
    }

    /** THE PAGE: letters that have come and are not read yet. */
    private static final class Page {
        final char[] row = new char[MOST_LETTERS];
        int size;

        boolean hasRoomFor(int more) {
            return size + more <= row.length;
        }

        void put(char letter) {
            if (size >= 0 && size < row.length) {
                row[size] = letter;
                size++;
            }
        }

        /** 0 where there is no letter: no letter has that code. */
        int at(int i) {
            return i >= 0 && i < size && i < row.length ? row[i] : 0;
        }

        int emptied() {
            int had = size;
            size = 0;
            return had;
        }

        int firstWrong() {
            for (int i = 0; i < size; i++) {
                if (!isWireLetter(i)) {
                    return i;
                }
            }
            return size;
        }

        boolean isWire() {
            return size >= LEAST_WIRE_LETTERS && firstWrong() == size;
        }

        int digitAt(int i) {
            return at(i) - '0';
        }

        private boolean isWireLetter(int i) {
            switch (i) {
                case 0:
                    return isBetween(i, '1', '4');
                case 1:
                    // Of the lengths that begin with 4, 40 alone is not too long.
                    return isBetween(i, '0', at(0) == '4' ? '0' : '9');
                case 2:
                case 4:
                    return at(i) == ':';
                case 3:
                case 5:
                    return isBetween(i, '1', '9');
                case 6:
                case 7:
                    return isBetween(i, '0', '9');
                case 8:
                    return at(i) == 'o';
                default:
                    return false;
            }
        }

        private boolean isBetween(int i, char lowest, char highest) {
            return at(i) >= lowest && at(i) <= highest;
        }
    }

    /** A WIRE as it is; without one every number is 0. */
    private static final class Cable {
        int length, spin, bears, place, hours;
        boolean old, broken;

        void hang(Page page) {
            length = 10 * page.digitAt(0) + page.digitAt(1);
            spin = length * length * page.digitAt(3);
            bears = 100 * page.digitAt(5) + 10 * page.digitAt(6) + page.digitAt(7);
            old = page.size > LEAST_WIRE_LETTERS;
            place = 0;
            hours = 0;
            broken = false;
        }

        void becomeLike(Cable other) {
            length = other.length;
            spin = other.spin;
            bears = other.bears;
            place = other.place;
            hours = other.hours;
            old = other.old;
            broken = other.broken;
        }

        boolean isThere() {
            return length > 0;
        }

        boolean isWhole() {
            return length > 0 && !broken;
        }

        int turnsAt(int some) {
            return some >= SHORTEST && some <= LONGEST ? spin / (some * some) : 0;
        }

        int turnsNow() {
            return turnsAt(length);
        }

        int armAt(int cabin, int some, int first, int second) {
            int both = first + second;
            int arm = both > 0 ? some * second / both : 0;
            return cabin == 0 ? arm : some - arm;
        }

        int floorAt(int cabin, int some, int first, int second) {
            int turns = turnsAt(some);
            return armAt(cabin, some, first, second) * turns * turns;
        }

        int strainBy(int weighs, int floor) {
            return weighs * floor / HUNDRED;
        }

        int armNow(int cabin, Load load) {
            return armAt(cabin, length, load.weighsIn(0, hours), load.weighsIn(1, hours));
        }

        int floorNow(int cabin, Load load) {
            return floorAt(cabin, length, load.weighsIn(0, hours), load.weighsIn(1, hours));
        }

        int strainNow(Load load) {
            int first = load.weighsIn(0, hours);
            return strainBy(first, floorAt(0, length, first, load.weighsIn(1, hours)));
        }

        int placeAfter(int more) {
            return Math.floorMod(place + more * turnsNow() * PLACE_A_TURN, CIRCLE);
        }

        void goHour(int by, Load load) {
            length -= by;
            hours++;
            place = placeAfter(1);
            broken = strainNow(load) > bears;
        }

        int breakingHundredths(int strain) {
            if (!old || bears < 1) {
                return strain > bears ? HUNDRED : 0;
            }
            return Math.min(HUNDRED, strain * HUNDRED / bears);
        }
    }

    /** KIND 0; the other KINDS say in what they differ from it. */
    private static class Thing {
        final int weight, came;
        int place;

        Thing(int weight, int cabin, int hours) {
            this.weight = weight;
            this.place = cabin;
            this.came = hours;
        }

        int kind() {
            return THING;
        }

        int weighs(int hours) {
            return weight;
        }

        boolean goesAcross(int turns) {
            return true;
        }

        final int hoursHere(int hours) {
            return hours - came;
        }
    }

    private static final class Cook extends Thing {
        Cook(int weight, int cabin, int hours) {
            super(weight, cabin, hours);
        }

        int kind() {
            return COOK;
        }

        int weighs(int hours) {
            return weight + COOK_MORE;
        }
    }

    private static final class Guest extends Thing {
        Guest(int weight, int cabin, int hours) {
            super(weight, cabin, hours);
        }

        int kind() {
            return GUEST;
        }

        boolean goesAcross(int turns) {
            return turns <= GUEST_TURNS;
        }
    }

    private static class Live extends Thing {
        Live(int weight, int cabin, int hours) {
            super(weight, cabin, hours);
        }

        int kind() {
            return LIVE;
        }

        int weighs(int hours) {
            return weight + (hours - came) / GROWING_HOURS;
        }
    }

    private static final class Hens extends Live {
        Hens(int weight, int cabin, int hours) {
            super(weight, cabin, hours);
        }

        int kind() {
            return HENS;
        }

        int weighs(int hours) {
            return weight + 2 * ((hours - came) / GROWING_HOURS);
        }
    }

    /** All THINGS of both CABINS, by their numbers. */
    private static final class Load {
        final Thing[] things = new Thing[MOST_THINGS];
        final int[] keptPlaces = new int[MOST_THINGS];
        int size, keptSize;

        boolean isFull() {
            return size >= things.length;
        }

        int put(Thing thing) {
            if (size < 0 || size >= things.length) {
                return FULL;
            }
            things[size] = thing;
            size++;
            return size - 1;
        }

        /** null where the number names nothing. */
        Thing at(int i) {
            return i >= 0 && i < size && i < things.length ? things[i] : null;
        }

        void cutTo(int most) {
            for (int i = 0; i < things.length; i++) {
                if (i >= most) {
                    things[i] = null;
                }
            }
            size = Math.min(size, most);
        }

        /** KIND, WEIGHT and since when a THING is here stay with it: of the IMAGE places are enough. */
        void keepPlaces() {
            keptSize = size;
            for (int i = 0; i < keptPlaces.length; i++) {
                Thing thing = at(i);
                keptPlaces[i] = thing == null ? 0 : thing.place;
            }
        }

        void goBack() {
            cutTo(keptSize);
            for (int i = 0; i < keptPlaces.length; i++) {
                Thing thing = at(i);
                if (thing != null) {
                    thing.place = keptPlaces[i];
                }
            }
        }

        int weighsIn(int cabin, int hours) {
            int sum = EMPTY_CABIN;
            for (int i = 0; i < size; i++) {
                Thing thing = at(i);
                if (thing != null && thing.place == cabin) {
                    sum += thing.weighs(hours);
                }
            }
            return sum;
        }

        int sizeIn(int cabin) {
            int many = 0;
            for (int i = 0; i < size; i++) {
                Thing thing = at(i);
                if (thing != null && thing.place == cabin) {
                    many++;
                }
            }
            return many;
        }
    }

    /** What was WEIGHED. */
    private static final class Told {
        final int[] lengths = new int[MOST_TOLD];
        final int[] turns = new int[MOST_TOLD];
        int size;

        boolean isFull() {
            return size >= MOST_TOLD;
        }

        int put(int length, int many) {
            if (size >= 0 && size < lengths.length && size < turns.length) {
                lengths[size] = length;
                turns[size] = many;
                size++;
            }
            return size;
        }

        int emptied() {
            int had = size;
            size = 0;
            return had;
        }

        int leastSpin() {
            int least = 1;
            for (int i = 0; i < size && i < lengths.length && i < turns.length; i++) {
                least = Math.max(least, turns[i] * lengths[i] * lengths[i]);
            }
            return least;
        }

        int greatestSpin() {
            int greatest = MOST_SPIN;
            for (int i = 0; i < size && i < lengths.length && i < turns.length; i++) {
                greatest = Math.min(greatest, (turns[i] + 1) * lengths[i] * lengths[i] - 1);
            }
            return greatest;
        }
    }

    /** EVEN, tried with every set of THINGS. */
    private static final class Evening {
        final int[] weighs = new int[MOST_THINGS];
        final int[] gains = new int[MOST_THINGS];
        int apart, bits;
        private int staying, first, both;

        void find(Cable cable, Load load) {
            setUp(cable, load);
            int carried = 0;
            for (int set = 0; set < 1 << MOST_THINGS; set++) {
                if ((set & staying) != 0) {
                    continue;
                }
                int gap = gapWith(set, cable);
                int sum = summed(weighs, set);
                // Sets come by their bits, so of like ones the first is the one that is due.
                if (set == 0 || gap < apart || (gap == apart && sum < carried)) {
                    apart = gap;
                    carried = sum;
                    bits = set;
                }
            }
        }

        private void setUp(Cable cable, Load load) {
            int turns = cable.turnsNow();
            first = load.weighsIn(0, cable.hours);
            both = first + load.weighsIn(1, cable.hours);
            staying = 0;
            for (int i = 0; i < weighs.length && i < gains.length; i++) {
                Thing thing = load.at(i);
                if (thing == null || !thing.goesAcross(turns)) {
                    staying |= 1 << i;
                    continue;
                }
                weighs[i] = thing.weighs(cable.hours);
                gains[i] = thing.place == 0 ? -weighs[i] : weighs[i];
            }
        }

        private int gapWith(int set, Cable cable) {
            int firstThen = first + summed(gains, set);
            int secondThen = both - firstThen;
            return Math.abs(cable.floorAt(0, cable.length, firstThen, secondThen)
                - cable.floorAt(1, cable.length, firstThen, secondThen));
        }

        private static int summed(int[] row, int set) {
            int sum = 0;
            for (int i = 0; i < row.length; i++) {
                if ((set >> i & 1) != 0) {
                    sum += row[i];
                }
            }
            return sum;
        }
    }

    /** SOONEST: by each HOUR, which LENGTHS can be had, and by what least way first. */
    private static final class Search {
        final int[] now = new int[LONGEST + 1];
        final int[] next = new int[LONGEST + 1];
        int hours, first;

        void find(Cable cable, Load load, int floor) {
            begin(cable.length);
            hours = NONE;
            first = NONE;
            for (int gone = 0; gone <= SEARCHED_HOURS; gone++) {
                int weighs0 = load.weighsIn(0, cable.hours + gone);
                int weighs1 = load.weighsIn(1, cable.hours + gone);
                if (gone > 0) {
                    step(gone == 1);
                    dropBroken(cable, weighs0, weighs1);
                }
                int way = leastWay(cable, floor, weighs0, weighs1);
                if (way < WAYS) {
                    hours = gone;
                    first = gone == 0 ? NONE : way;
                    return;
                }
            }
        }

        /** WAYS stands for a LENGTH that can't be had: it is above every way. */
        private void begin(int length) {
            for (int i = 0; i < now.length; i++) {
                now[i] = i == length ? 0 : WAYS;
            }
        }

        private void step(boolean isFirst) {
            for (int i = 0; i < next.length; i++) {
                next[i] = WAYS;
            }
            for (int i = 0; i < now.length; i++) {
                if (now[i] < WAYS) {
                    stepFrom(i, isFirst, now[i]);
                }
            }
            for (int i = 0; i < now.length && i < next.length; i++) {
                now[i] = next[i];
            }
        }

        private void stepFrom(int length, boolean isFirst, int begunBy) {
            for (int way = 0; way < WAYS; way++) {
                int then = length - windingOf(way);
                if (isLength(then) && then < next.length) {
                    next[then] = Math.min(next[then], isFirst ? way : begunBy);
                }
            }
        }

        private void dropBroken(Cable cable, int weighs0, int weighs1) {
            for (int i = 0; i < now.length; i++) {
                if (now[i] < WAYS) {
                    int had = cable.floorAt(0, i, weighs0, weighs1);
                    if (cable.strainBy(weighs0, had) > cable.bears) {
                        now[i] = WAYS;
                    }
                }
            }
        }

        private int leastWay(Cable cable, int floor, int weighs0, int weighs1) {
            int least = WAYS;
            for (int i = 0; i < now.length; i++) {
                if (now[i] < least) {
                    int had = cable.floorAt(0, i, weighs0, weighs1);
                    if (had >= floor && had <= floor + floor / 2) {
                        least = now[i];
                    }
                }
            }
            return least;
        }
    }
}
