import java.util.Random;

/** Long runs of calls by seeds, each answer held against the Model; wild arguments among them. */
final class RandomRunsTest {
    private static final int RUNS = 400, CALLS = 512;
    private static final Check C = new Check();
    private static final int[] WILD = {Integer.MIN_VALUE, Integer.MAX_VALUE, -1, 0, 1, 5, 6, 7, 13, 41, 100, -103};

    public static void main(String[] args) {
        for (int seed = 0; seed < RUNS; seed++) {
            run(new Random(seed));
        }
        C.end("RandomRunsTest");
    }

    private static void run(Random r) {
        TwoOnACable x = new TwoOnACable();
        Model m = new Model();
        int calmness = 1 + r.nextInt(40);
        for (int i = 0; i < CALLS; i++) {
            if (m.count(0) == 0 || r.nextInt(5 * calmness) == 0 || (m.count(8) == 1 && r.nextInt(20) == 0)) {
                i += writeWire(r, x, m);
            }
            call(r, x, m);
        }
    }

    private static int writeWire(Random r, TwoOnACable x, Model m) {
        if (r.nextInt(3) > 0) {
            C.due("blank()", x.blank(), m.blank());
        }
        String text = (r.nextInt(20) == 0 ? r.nextInt(100) : 10 + r.nextInt(31)) + ":"
            + (r.nextInt(20) == 0 ? 0 : 1 + r.nextInt(9)) + ":"
            + (r.nextInt(20) == 0 ? r.nextInt(1000) : 100 + r.nextInt(900));
        long w = Check.bytes(text.length() > 8 ? text.substring(0, 8) : text);
        C.due("letters of " + text, x.letters(w), m.letters(w));
        if (r.nextBoolean()) {
            C.due("letters of o", x.letters('o'), m.letters('o'));
        }
        C.due("fault() of " + text, x.fault(), m.fault());
        C.due("wire() of " + text, x.wire(), m.wire());
        return 5;
    }

    private static int some(Random r, int from, int to) {
        return r.nextInt(40) == 0 ? WILD[r.nextInt(WILD.length)] : from + r.nextInt(to - from + 1);
    }

    private static void call(Random r, TwoOnACable x, Model m) {
        switch (r.nextInt(24)) {
            case 0 -> {
                long w = r.nextInt(3) == 0 ? r.nextLong() : r.nextInt(127) + 256L * r.nextInt(127);
                C.due("letters(" + w + ")", x.letters(w), m.letters(w));
            }
            case 1 -> C.due("fault()", x.fault(), m.fault());
            case 2 -> C.due("blank()", x.blank(), m.blank());
            case 3, 4, 5 -> {
                int kind = some(r, 0, 4);
                int weight = some(r, 1, 20);
                int cabin = some(r, 0, 1);
                C.due("thing", x.thing(kind, weight, cabin), m.thing(kind, weight, cabin));
            }
            case 6, 7 -> {
                int thing = some(r, 0, 6);
                C.due("carry(" + thing + ")", x.carry(thing), m.carry(thing));
            }
            case 8, 9, 10, 11 -> {
                int by = r.nextBoolean() ? -some(r, 0, 3) : some(r, -3, 3);
                C.due("hour(" + by + ")", x.hour(by), m.hour(by));
            }
            case 12 -> {
                int length = some(r, 10, 40);
                int turns = r.nextBoolean() ? m.count(2) / (length * length == 0 ? 1 : length * length) : some(r, 0, 99);
                C.due("weighed", x.weighed(length, turns), m.weighed(length, turns));
            }
            case 13 -> C.due("image()", x.image(), m.image());
            case 14 -> C.due("restore()", x.restore(), m.restore());
            case 15 -> {
                if (r.nextInt(5) == 0) {
                    C.due("forget()", x.forget(), m.forget());
                }
            }
            default -> ask(r, x, m);
        }
    }

    private static void ask(Random r, TwoOnACable x, Model m) {
        int what = some(r, 0, 4);
        int thing = some(r, 0, 6);
        int part = some(r, 0, 1);
        switch (r.nextInt(10)) {
            case 0 -> C.due("cabin", x.cabin(part, what), m.cabin(part, what));
            case 1 -> C.due("about", x.about(thing, what), m.about(thing, what));
            case 2 -> C.due("as", x.as(thing, what), m.as(thing, what));
            case 3 -> C.due("even", x.even(part), m.even(part));
            case 4 -> {
                int floor = r.nextInt(4) == 0 ? some(r, 1, 9999) : some(r, 1, 600);
                C.due("soonest(" + floor + ", " + part + ")", x.soonest(floor, part), m.soonest(floor, part));
            }
            case 5 -> {
                int in = some(r, 1, 99);
                C.due("caught(" + in + ")", x.caught(in), m.caught(in));
            }
            case 6 -> C.due("fits", x.fits(what), m.fits(what));
            case 7 -> {
                int in = some(r, 1, 4);
                C.due("lasts", x.lasts(in, part), m.lasts(in, part));
            }
            case 8 -> {
                int in = some(r, 1, 60);
                int seed = r.nextInt(Integer.MAX_VALUE);
                C.due("whirls", x.whirls(in, seed, what), m.whirls(in, seed, what));
            }
            default -> {
                int count = some(r, 0, 12);
                C.due("count", x.count(count), m.count(count));
                C.due("digest()", x.digest(), m.digest());
            }
        }
    }
}
