/** Promises 20 to 23: image, restore, count, digest. */
final class AllTest {
    private static final Check C = new Check();
    private static final int OUTSIDE = TwoOnACable.OUTSIDE, STATE = TwoOnACable.STATE, NONE = TwoOnACable.NONE;

    public static void main(String[] args) {
        imageKeeps();
        imageIsTheLatest();
        imageOfABrokenOne();
        imageGoesWithItsWire();
        count();
        digestOfNothing();
        digestOfAll();
        C.end("AllTest");
    }

    private static void imageKeeps() {
        TwoOnACable x = Check.wired("30:4:999");
        C.refused(x, "nothing was kept", x::restore, STATE);
        x.thing(4, 5, 0);
        x.thing(0, 7, 1);
        Check.hours(x, 1, 2);
        long before = x.digest();
        C.due("image() tells HOURS", x.image(), 2);
        C.due("image() changes nothing", x.digest(), before);
        x.carry(0);
        x.carry(1);
        x.thing(1, 20, 0);
        Check.hours(x, 2, 7);
        C.due("it goes on", x.count(0), 14);
        C.due("restore() tells HOURS", x.restore(), 2);
        C.due("all is as it was", x.digest(), before);
        C.due("LENGTH", x.count(0), 28);
        C.due("PLACE", x.count(6), 80);
        C.due("HOURS", x.count(7), 2);
        C.due("THINGS that came since are gone", x.about(2, 0), TwoOnACable.UNKNOWN);
        C.due("where they are", x.about(0, 2), 0);
        C.due("since when", x.about(0, 4), 2);
        C.due("a new one has the number again", x.thing(3, 2, 1), 2);
        C.due("and came now", x.about(2, 4), 0);
        C.due("again", x.restore(), 2);
        C.due("all is as it was again", x.digest(), before);
        x.weighed(30, 4);
        x.letters('a');
        C.due("of what was WEIGHED nothing is kept", x.restore(), 2);
        C.due("nor forgotten", x.count(12), 1);
        C.due("nor of THE PAGE", x.count(10), 1);
    }

    private static void imageIsTheLatest() {
        TwoOnACable x = Check.wired("30:4:999");
        x.image();
        x.hour(0);
        x.thing(0, 3, 1);
        C.due("another", x.image(), 1);
        x.hour(0);
        x.carry(0);
        C.due("the latest", x.restore(), 1);
        C.due("its THINGS", x.count(9), 1);
        C.due("its CABIN", x.about(0, 2), 1);
    }

    private static void imageOfABrokenOne() {
        TwoOnACable x = Check.wired("10:9:100");
        x.thing(0, 20, 0);
        x.thing(0, 20, 1);
        C.due("whole", x.image(), 0);
        C.due("it breaks", x.hour(0), NONE);
        C.due("restored", x.restore(), 0);
        C.due("whole again", x.count(8), 0);
        C.due("PLACE again", x.count(6), 0);
        C.due("it breaks again", x.hour(0), NONE);
        C.due("BROKEN is kept", x.image(), 1);
        C.due("and restored", x.restore(), 1);
        C.due("BROKEN", x.count(8), 1);
    }

    private static void imageGoesWithItsWire() {
        TwoOnACable x = Check.wired("30:4:999");
        x.image();
        Check.write(x, "30:4:99");
        x.wire();
        C.due("a text that is none takes nothing", x.restore(), 0);
        Check.write(x, "9");
        C.due("the same text", x.wire(), 3600);
        C.refused(x, "a WIRE was read since", x::restore, STATE);
        C.due("a new one", x.image(), 0);
        C.due("is there", x.restore(), 0);
        TwoOnACable none = new TwoOnACable();
        C.refused(none, "no wire", none::image, STATE);
        C.refused(none, "nothing kept", none::restore, STATE);
    }

    private static void count() {
        TwoOnACable x = Check.wired("30:4:120o");
        x.thing(0, 8, 0);
        x.thing(0, 2, 1);
        x.thing(0, 2, 1);
        x.weighed(10, 1);
        x.letters(Check.bytes("123"));
        x.hour(2);
        // ARM 28 * 14 / 32 is 12; TURNS 3600 / 784 is 4; 18 * 192 / 100 is 34.
        int[] due = {28, 4, 3600, 34, 120, 1, 40, 1, 0, 3, 3, 1, 1};
        for (int what = 0; what < due.length; what++) {
            C.due("count(" + what + ")", x.count(what), due[what]);
        }
        C.refused(x, "count(-1)", () -> x.count(-1), OUTSIDE);
        C.refused(x, "count(13)", () -> x.count(13), OUTSIDE);
    }

    private static void digestOfNothing() {
        long h = 683;
        long[] numbers = {14400, 1, 14400, 'o', 'k', 0, 0, 0, 0, 0, 0, 0, 0, 0, 0, 2, 0, 0};
        for (long number : numbers) {
            h = 31 * h + number;
        }
        TwoOnACable x = new TwoOnACable();
        Check.write(x, "ok");
        C.due("digest() of no wire", x.digest(), h);
        C.due("digest() again", x.digest(), h);
    }

    private static void digestOfAll() {
        // CABINS of 10 and 15: ARM 20 * 15 / 25 is 12; TURNS 4; STRAIN 10 * 192 / 100 is 19.
        TwoOnACable x = Check.wired("20:4:100o");
        x.thing(1, 3, 1);
        x.weighed(20, 4);
        x.letters('z');
        long[] whole = {10, 12, 192, 0, 15, 8, 128, 1,
            1, 3, 1, 5, 0,
            64, 0,
            // A FLOOR of 100 to 150: at 21, 12 * 9 is 108.
            1, 4,
            // 81 hundredths twice.
            6561, 10000,
            400, 1600, 1999, 'z',
            20, 4, 1600, 19, 100, 1, 0, 0, 0, 1, 1, 1, 1};
        C.due("digest() of a whole one", x.digest(), digestOf(whole));
        // ARM 10 * 10 / 25 is 4; a FLOOR of 100 is had; even is 100 against 150, or the other way.
        TwoOnACable just = Check.wired("10:5:999");
        just.thing(0, 5, 0);
        long[] had = {15, 4, 100, 1, 10, 6, 150, 0,
            0, 5, 0, 5, 0,
            50, 0, 0, -1, 1, 1,
            14400, 1, 14400,
            10, 5, 500, 15, 999, 0, 0, 0, 0, 1, 0, 1, 0};
        C.due("digest() with a FLOOR of 100", just.digest(), digestOf(had));
        TwoOnACable y = Check.wired("10:9:100");
        y.thing(0, 20, 0);
        y.thing(0, 20, 1);
        y.hour(0);
        long[] broken = {30, 5, 405, 1, 30, 5, 405, 1,
            0, 20, 0, 20, 1, 0, 20, 1, 20, 1,
            14400, 1, 14400,
            10, 9, 900, 121, 100, 0, 90, 1, 1, 2, 0, 1, 0};
        C.due("digest() of a BROKEN one", y.digest(), digestOf(broken));
    }

    private static long digestOf(long[] numbers) {
        long h = 683;
        for (long number : numbers) {
            h = 31 * h + number;
        }
        return h;
    }
}
