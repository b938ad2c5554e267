/** Promises 15 to 19: weighed, forget, fits, lasts, whirls. */
final class WeighedTest {
    private static final Check C = new Check();
    private static final int OUTSIDE = TwoOnACable.OUTSIDE, STATE = TwoOnACable.STATE, FULL = TwoOnACable.FULL,
        NONE = TwoOnACable.NONE;

    public static void main(String[] args) {
        weighed();
        fits();
        lasts();
        lastsAsItBears();
        whirls();
        whirlsBreaks();
        refused();
        C.end("WeighedTest");
    }

    private static void weighed() {
        TwoOnACable x = Check.wired("20:2:900");
        for (int i = 1; i <= 6; i++) {
            C.due("told " + i, x.weighed(10 + i, i), i);
            C.due("count of told " + i, x.count(12), i);
        }
        C.refused(x, "a seventh", () -> x.weighed(20, 2), FULL);
        C.refused(x, "OUTSIDE ahead of FULL", () -> x.weighed(9, 2), OUTSIDE);
        C.due("forget six", x.forget(), 6);
        C.due("forget none", x.forget(), 0);
        C.due("none then", x.count(12), 0);
        C.due("from 1 again", x.weighed(10, 0), 1);
        C.due("40 and 99", x.weighed(40, 99), 2);
    }

    private static void fits() {
        TwoOnACable x = Check.wired("20:2:900");
        fit(x, "nothing told", 14400, 1, 14400);
        x.weighed(20, 2);
        fit(x, "2 at 20", 400, 800, 1199);
        x.weighed(10, 9);
        fit(x, "9 at 10, too", 100, 900, 999);
        x.weighed(30, 1);
        fit(x, "1 at 30, too", 100, 900, 999);
        x.weighed(31, 1);
        fit(x, "1 at 31, too", 39, 961, 999);
        x.weighed(31, 0);
        fit(x, "0 at 31, too", 0, NONE, NONE);
        x.forget();
        x.weighed(10, 0);
        fit(x, "0 at 10: not 0", 99, 1, 99);
        x.forget();
        x.weighed(40, 9);
        fit(x, "9 at 40: 14400 alone", 1, 14400, 14400);
        x.forget();
        x.weighed(40, 10);
        fit(x, "10 at 40: above all", 0, NONE, NONE);
        x.forget();
        x.weighed(12, 99);
        fit(x, "99 at 12", 144, 14256, 14399);
        x.forget();
        x.weighed(40, 8);
        fit(x, "8 at 40", 1600, 12800, 14399);
    }

    private static void fit(TwoOnACable x, String what, int many, int least, int greatest) {
        C.due("how many: " + what, x.fits(0), many);
        C.due("the least: " + what, x.fits(1), least);
        C.due("the greatest: " + what, x.fits(2), greatest);
    }

    private static void lasts() {
        // STRAIN 10 * (10 * 16) / 100 is 16, of 100: 16 hundredths.
        TwoOnACable x = Check.wired("20:4:100o");
        C.due("STRAIN", x.count(3), 16);
        last(x, 1, 21, 25);
        last(x, 2, 441, 625);
        last(x, 3, 9261, 15625);
        last(x, 4, 194481, 390625);
        // 16 of 999 is 1.6 hundredths.
        last(Check.wired("20:4:999o"), 2, 9801, 10000);
        // 4 of 200 is 2 hundredths: 98 by 100.
        last(Check.wired("20:2:200o"), 1, 49, 50);
        last(Check.wired("20:2:200o"), 3, 117649, 125000);
        // 1 of 999: no hundredth.
        last(Check.wired("20:1:999o"), 4, 1, 1);
        TwoOnACable firm = Check.wired("20:4:100");
        last(firm, 1, 1, 1);
        last(firm, 4, 1, 1);
    }

    private static void lastsAsItBears() {
        TwoOnACable old = Check.wired("20:5:100o");
        TwoOnACable young = Check.wired("20:5:100");
        for (TwoOnACable x : new TwoOnACable[] {old, young}) {
            x.thing(0, 20, 0);
            x.thing(0, 20, 0);
            x.thing(0, 17, 0);
            x.thing(0, 20, 1);
            C.due("as much as it bears", x.count(3), 100);
        }
        last(old, 1, 0, 1);
        last(old, 4, 0, 1);
        last(young, 3, 1, 1);
        old.thing(0, 20, 0);
        young.thing(0, 20, 0);
        C.due("more than it bears", old.count(3), 108);
        last(old, 2, 0, 1);
        last(young, 2, 0, 1);
        TwoOnACable half = Check.wired("20:7:100o");
        C.due("49 hundredths", half.count(3), 49);
        last(half, 2, 2601, 10000);
        half.thing(0, 1, 1);
        C.due("49 still", half.count(3), 49);
        half.thing(0, 1, 0);
        last(half, 1, 47, 100);
    }

    private static void last(TwoOnACable x, int hours, long above, long below) {
        C.due("above, in " + hours, x.lasts(hours, 0), above);
        C.due("below, in " + hours, x.lasts(hours, 1), below);
    }

    private static void whirls() {
        TwoOnACable x = Check.wired("20:2:999");
        x.hour(0);
        // 12345 by 65536 is 0: stays.
        whirl(x, 1, 0, 20, 40, 1, 12345);
        // (1103515245 * 12345 + 12345) rest 2147483648 is 1406932606: 21468, rest 6: let out by 3.
        whirl(x, 2, 0, 23, 50, 2, 1406932606);
        // 654583775: 9988, rest 6: let out by 3.
        whirl(x, 3, 0, 26, 60, 3, 654583775);
        // 1449466924: 22117, rest 4: let out by 1.
        whirl(x, 4, 0, 27, 70, 4, 1449466924);
        C.due("THE WIRE stays as it is", x.count(0), 20);
        C.due("no HOUR has gone", x.count(7), 1);
        TwoOnACable end = Check.wired("39:1:999");
        whirl(end, 2, 0, 39, 20, 2, 1406932606);
        TwoOnACable low = Check.wired("11:1:999");
        // 1103527590: 16838, rest 3: wound in by 3, out of 10.
        whirl(low, 1, 1, 11, 10, 1, 1103527590);
        TwoOnACable higher = Check.wired("13:1:999");
        whirl(higher, 1, 1, 10, 10, 1, 1103527590);
    }

    private static void whirlsBreaks() {
        // 10 * (5 * 81) / 100 is 40; with two of 20 it is 30 * 405 / 100, or 121.
        TwoOnACable x = Check.wired("10:9:100");
        x.thing(0, 20, 0);
        x.thing(0, 20, 1);
        whirl(x, 60, 0, 10, 90, 1, 12345);
        C.due("it is not BROKEN by that", x.count(8), 0);
        TwoOnACable live = Check.wired("10:9:100");
        live.thing(4, 14, 0);
        live.thing(0, 16, 1);
        C.due("24 * (5 * 81) / 100", live.count(3), 97);
        whirl(live, 5, 0, 19, 90 + 50 + 30 + 30 + 20, 5, (int) seedAfter(0, 5));
        C.due("HENS do not grow by that", live.about(0, 3), 14);
        TwoOnACable old = Check.wired("20:7:100o");
        C.due("an OLD one goes on: HOURS", old.whirls(1, 0, 2), 1);
        C.due("an OLD one goes on: LENGTH", old.whirls(4, 0, 0), 27);
    }

    private static long seedAfter(long seed, int times) {
        long s = seed;
        for (int i = 0; i < times; i++) {
            s = (1103515245L * s + 12345) % (1L << 31);
        }
        return s;
    }

    private static void whirl(TwoOnACable x, int hours, int seed, int length, int place, int gone, int then) {
        String call = "whirls(" + hours + ", " + seed + ") ";
        C.due(call + "LENGTH", x.whirls(hours, seed, 0), length);
        C.due(call + "PLACE", x.whirls(hours, seed, 1), place);
        C.due(call + "HOURS", x.whirls(hours, seed, 2), gone);
        C.due(call + "SEED", x.whirls(hours, seed, 3), then);
    }

    private static void refused() {
        TwoOnACable none = new TwoOnACable();
        C.refused(none, "weighed, no wire", () -> none.weighed(20, 2), STATE);
        TwoOnACable broken = Check.wired("10:9:100");
        broken.thing(0, 20, 0);
        broken.thing(0, 20, 1);
        broken.hour(0);
        C.due("weighed, BROKEN", broken.weighed(20, 2), 1);
        for (TwoOnACable x : new TwoOnACable[] {none, broken}) {
            C.refused(x, "lasts(1, 0)", () -> x.lasts(1, 0), STATE);
            C.refused(x, "lasts(4, 1)", () -> x.lasts(4, 1), STATE);
            C.refused(x, "whirls(1, 0, 0)", () -> x.whirls(1, 0, 0), STATE);
            C.refused(x, "whirls(60, 7, 3)", () -> x.whirls(60, 7, 3), STATE);
            outside(x);
        }
        outside(Check.wired("20:2:900"));
    }

    private static void outside(TwoOnACable x) {
        C.refused(x, "weighed(9, 1)", () -> x.weighed(9, 1), OUTSIDE);
        C.refused(x, "weighed(41, 1)", () -> x.weighed(41, 1), OUTSIDE);
        C.refused(x, "weighed(10, -1)", () -> x.weighed(10, -1), OUTSIDE);
        C.refused(x, "weighed(10, 100)", () -> x.weighed(10, 100), OUTSIDE);
        C.refused(x, "fits(-1)", () -> x.fits(-1), OUTSIDE);
        C.refused(x, "fits(3)", () -> x.fits(3), OUTSIDE);
        C.refused(x, "lasts(0, 0)", () -> x.lasts(0, 0), OUTSIDE);
        C.refused(x, "lasts(5, 0)", () -> x.lasts(5, 0), OUTSIDE);
        C.refused(x, "lasts(1, -1)", () -> x.lasts(1, -1), OUTSIDE);
        C.refused(x, "lasts(1, 2)", () -> x.lasts(1, 2), OUTSIDE);
        C.refused(x, "whirls(0, 0, 0)", () -> x.whirls(0, 0, 0), OUTSIDE);
        C.refused(x, "whirls(61, 0, 0)", () -> x.whirls(61, 0, 0), OUTSIDE);
        C.refused(x, "whirls(1, -1, 0)", () -> x.whirls(1, -1, 0), OUTSIDE);
        C.refused(x, "whirls(1, 0, -1)", () -> x.whirls(1, 0, -1), OUTSIDE);
        C.refused(x, "whirls(1, 0, 4)", () -> x.whirls(1, 0, 4), OUTSIDE);
    }
}
