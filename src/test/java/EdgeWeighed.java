/** Boundary cases of what it was and would be: FITS, LASTS, WHIRLS, and promises 15 to 19. */
final class EdgeWeighed {
    private static final int OUTSIDE = TwoOnACable.OUTSIDE, STATE = TwoOnACable.STATE, FULL = TwoOnACable.FULL,
        NONE = TwoOnACable.NONE;
    private static final int LEAST = Integer.MIN_VALUE, GREATEST = Integer.MAX_VALUE;

    private final Check c;
    private final Document doc;

    EdgeWeighed(Check c, Document doc) {
        this.c = c;
        this.doc = doc;
    }

    void run() {
        sixTold();
        weighedRefused();
        forget();
        fitsEnds();
        fitsAll();
        fitsRefused();
        lastsOld();
        lastsNotOld();
        lastsRefused();
        whirlsEnds();
        whirlsBreaks();
        draws();
        whirlsRefused();
    }

    private static TwoOnACable broken() {
        TwoOnACable x = Check.wired("10:9:100");
        x.thing(0, 20, 0);
        x.thing(0, 20, 1);
        x.hour(0);
        return x;
    }

    private void sixTold() {
        doc.says(0, "WEIGHED: how fast it went is told for LENGTHS (6 at most): that at a LENGTH it had so many TURNS.");
        doc.says(15, "It is told that it had so many TURNS at a LENGTH: how many were told.");
        TwoOnACable x = Check.wired("20:2:900");
        for (int i = 1; i <= 6; i++) {
            // The same LENGTH may be told more than once.
            c.due("told " + i, x.weighed(20, 2), i);
        }
        c.refused(x, "a seventh", () -> x.weighed(20, 2), FULL);
        c.due("six", x.count(12), 6);
        fit(x, "all six are so", 400, 800, 1199);
    }

    private void weighedRefused() {
        doc.says(15, "OUTSIDE: length (10 to 40), turns (0 to 99); STATE: no WIRE; FULL.");
        TwoOnACable x = Check.wired("20:2:900");
        TwoOnACable none = new TwoOnACable();
        TwoOnACable full = Check.wired("20:2:900");
        for (int i = 0; i < 6; i++) {
            full.weighed(20, 2);
        }
        for (TwoOnACable one : new TwoOnACable[] {x, none, full}) {
            for (int length : new int[] {LEAST, -1, 0, 9, 41, GREATEST}) {
                c.refused(one, "weighed(" + length + ", 2)", () -> one.weighed(length, 2), OUTSIDE);
            }
            for (int turns : new int[] {LEAST, -1, 100, GREATEST}) {
                c.refused(one, "weighed(20, " + turns + ")", () -> one.weighed(20, turns), OUTSIDE);
            }
        }
        c.refused(none, "no WIRE", () -> none.weighed(20, 2), STATE);
        c.refused(full, "a seventh", () -> full.weighed(10, 0), FULL);
        c.due("10 and 0", x.weighed(10, 0), 1);
        c.due("40 and 99", x.weighed(40, 99), 2);
        c.due("of a BROKEN one", broken().weighed(10, 9), 1);
    }

    private void forget() {
        doc.says(16, "All that is told so is gone: how many there were.");
        TwoOnACable x = Check.wired("20:2:900");
        c.due("none", x.forget(), 0);
        for (int i = 0; i < 6; i++) {
            x.weighed(40, 99);
        }
        c.due("six", x.forget(), 6);
        c.due("none any more", x.forget(), 0);
        fit(x, "nothing is told", 14400, 1, 14400);
        c.due("there is room again", x.weighed(20, 2), 1);
        c.due("without a WIRE", new TwoOnACable().forget(), 0);
    }

    private void fit(TwoOnACable x, String what, int many, int least, int greatest) {
        c.due("how many: " + what, x.fits(0), many);
        c.due("the least: " + what, x.fits(1), least);
        c.due("the greatest: " + what, x.fits(2), greatest);
    }

    private void fitOne(int length, int turns, int many, int least, int greatest) {
        TwoOnACable x = Check.wired("20:2:900");
        x.weighed(length, turns);
        fit(x, turns + " at " + length, many, least, greatest);
    }

    private void fitsEnds() {
        doc.says(0, "FITS: all numbers SPIN (1 to 14400) by which all of these are so: how many, the least, the greatest.");
        fit(new TwoOnACable(), "nothing told, no WIRE", 14400, 1, 14400);
        fitOne(10, 0, 99, 1, 99);
        fitOne(40, 0, 1599, 1, 1599);
        fitOne(10, 1, 100, 100, 199);
        fitOne(10, 99, 100, 9900, 9999);
        fitOne(40, 8, 1600, 12800, 14399);
        fitOne(40, 9, 1, 14400, 14400);
        fitOne(40, 10, 0, NONE, NONE);
        fitOne(12, 99, 144, 14256, 14399);
        fitOne(38, 9, 1405, 12996, 14400);
        fitOne(38, 10, 0, NONE, NONE);
        fitOne(40, 99, 0, NONE, NONE);
    }

    private void fitsAll() {
        doc.says(17, "FITS: what = 0 how many, 1 the least, 2 the greatest (NONE: there are none). OUTSIDE.");
        TwoOnACable x = Check.wired("20:2:900");
        x.weighed(10, 22);
        x.weighed(11, 19);
        // 2200 to 2299, and 19 * 121 is 2299.
        fit(x, "just one", 1, 2299, 2299);
        x.forget();
        x.weighed(11, 18);
        x.weighed(10, 23);
        // 2178 to 2298, and 2300 to 2399.
        fit(x, "none between", 0, NONE, NONE);
        x.forget();
        x.weighed(10, 22);
        x.weighed(11, 18);
        fit(x, "2200 to 2298", 99, 2200, 2298);
        x.weighed(40, 1);
        x.weighed(15, 9);
        x.weighed(30, 2);
        fit(x, "by three more the same", 50, 2200, 2249);
        x.weighed(30, 3);
        fit(x, "by the sixth none", 0, NONE, NONE);
        Check.write(x, "20:2:900");
        x.wire();
        fit(x, "another WIRE", 14400, 1, 14400);
    }

    private void fitsRefused() {
        TwoOnACable x = Check.wired("20:2:900");
        x.weighed(40, 10);
        for (TwoOnACable one : new TwoOnACable[] {x, new TwoOnACable(), broken()}) {
            for (int what : new int[] {LEAST, -1, 3, GREATEST}) {
                c.refused(one, "fits(" + what + ")", () -> one.fits(what), OUTSIDE);
            }
        }
        c.refused(x, "none", () -> x.fits(2), NONE);
    }

    private void last(TwoOnACable x, int hours, long above, long below) {
        c.due("above, in " + hours, x.lasts(hours, 0), above);
        c.due("below, in " + hours, x.lasts(hours, 1), below);
    }

    private void lastsOld() {
        doc.says(0, "LASTS: an OLD WIRE breaks in an HOUR by so many hundredths as its STRAIN is hundredths of what it BEARS"
            + " (rounded down; 100 at most)");
        // STRAIN 2 of 200 is a hundredth; of 201 it is less.
        c.due("STRAIN", Check.wired("40:1:200o").count(3), 2);
        last(Check.wired("40:1:200o"), 1, 99, 100);
        last(Check.wired("40:1:200o"), 4, 96059601L, 100000000L);
        last(Check.wired("40:1:201o"), 1, 1, 1);
        last(Check.wired("40:1:201o"), 4, 1, 1);
        // 2 of 100: 98 hundredths in lowest terms.
        last(Check.wired("40:1:100o"), 1, 49, 50);
        last(Check.wired("40:1:100o"), 4, 5764801, 6250000);
        // No STRAIN at all: 90 by 100.
        last(Check.wired("19:1:100o"), 4, 1, 1);
        TwoOnACable most = strained("20:5:101o");
        c.due("100 of 101", most.count(3), 100);
        last(most, 1, 1, 100);
        last(most, 4, 1, 100000000L);
        TwoOnACable just = strained("20:5:100o");
        last(just, 1, 0, 1);
        last(just, 4, 0, 1);
        TwoOnACable more = strained("20:5:100o");
        more.thing(0, 20, 0);
        more.thing(0, 20, 1);
        c.due("much more than it BEARS", more.count(3), 152);
        last(more, 1, 0, 1);
        last(more, 3, 0, 1);
        c.due("it is not BROKEN by that", more.count(8), 0);
    }

    /** A STRAIN of 67 * (6 * 25) by 100. */
    private static TwoOnACable strained(String text) {
        TwoOnACable x = Check.wired(text);
        x.thing(0, 20, 0);
        x.thing(0, 20, 0);
        x.thing(0, 17, 0);
        x.thing(0, 20, 1);
        return x;
    }

    private void lastsNotOld() {
        doc.says(0, "one that is not OLD surely, if its STRAIN is more than it BEARS, else not");
        TwoOnACable just = strained("20:5:100");
        c.due("as much as it BEARS", just.count(3), 100);
        last(just, 1, 1, 1);
        last(just, 4, 1, 1);
        just.thing(0, 1, 0);
        c.due("more", just.count(3), 102);
        last(just, 1, 0, 1);
        last(just, 4, 0, 1);
        doc.says(0, "how likely it does not break in so many HOURS (1 to 4), if STRAIN stays as it is now.");
        TwoOnACable half = Check.wired("20:5:100o");
        c.due("25 of 100", half.count(3), 25);
        last(half, 1, 3, 4);
        last(half, 2, 9, 16);
        last(half, 3, 27, 64);
        last(half, 4, 81, 256);
        half.thing(4, 20, 1);
        Check.hours(half, 0, 5);
        // 10 * (15 * 25) by 100 is 37; in the next HOUR HENS would weigh more.
        last(half, 2, 3969, 10000);
    }

    private void lastsRefused() {
        doc.says(18, "LASTS, in lowest terms: part 0 above, 1 below. OUTSIDE: hours, part; STATE: no WIRE, or it is BROKEN.");
        for (TwoOnACable x : new TwoOnACable[] {new TwoOnACable(), broken(), Check.wired("10:1:100o")}) {
            for (int hours : new int[] {LEAST, -1, 0, 5, GREATEST}) {
                c.refused(x, "lasts(" + hours + ", 0)", () -> x.lasts(hours, 0), OUTSIDE);
            }
            for (int part : new int[] {LEAST, -1, 2, GREATEST}) {
                c.refused(x, "lasts(1, " + part + ")", () -> x.lasts(1, part), OUTSIDE);
                c.refused(x, "lasts(4, " + part + ")", () -> x.lasts(4, part), OUTSIDE);
            }
        }
        for (TwoOnACable x : new TwoOnACable[] {new TwoOnACable(), broken()}) {
            c.refused(x, "lasts(1, 0)", () -> x.lasts(1, 0), STATE);
            c.refused(x, "lasts(4, 1)", () -> x.lasts(4, 1), STATE);
        }
    }

    private void whirl(TwoOnACable x, int hours, int seed, int length, int place, int gone, int then) {
        String call = "whirls(" + hours + ", " + seed + ") ";
        c.due(call + "LENGTH", x.whirls(hours, seed, 0), length);
        c.due(call + "PLACE", x.whirls(hours, seed, 1), place);
        c.due(call + "HOURS", x.whirls(hours, seed, 2), gone);
        c.due(call + "SEED", x.whirls(hours, seed, 3), then);
    }

    /** A SEED by which the DRAW of 7 in the first HOUR is that. */
    private static int seedFor(int draw) {
        for (int seed = 0; seed < 1000; seed++) {
            if (seedAfter(seed, 1) / 65536 % 7 == draw) {
                return seed;
            }
        }
        throw new IllegalStateException("no seed for " + draw);
    }

    private static long seedAfter(long seed, int times) {
        long s = seed;
        for (int i = 0; i < times; i++) {
            s = (1103515245L * s + 12345L) % 2147483648L;
        }
        return s;
    }

    private void whirlsEnds() {
        doc.says(0, "WHIRLS by a SEED, as they would be: so many HOURS, in each of which by a DRAW of 7 it is done as above"
            + " (0 to 6; if LENGTH would be out of 10 to 40, it stays)");
        int[] more = {0, -1, -2, -3, 1, 2, 3};
        for (int draw = 0; draw <= 6; draw++) {
            int seed = seedFor(draw);
            for (int length : new int[] {10, 11, 12, 13, 20, 37, 38, 39, 40}) {
                TwoOnACable x = Check.wired(length + ":1:999");
                int then = length + more[draw];
                c.due("draw " + draw + " at " + length, x.whirls(1, seed, 0), then < 10 || then > 40 ? length : then);
                c.due("an HOUR goes by all the same", x.whirls(1, seed, 2), 1);
                c.due("the SEED then", x.whirls(1, seed, 3), seedAfter(seed, 1));
            }
        }
    }

    private void whirlsBreaks() {
        doc.says(0, "till it BREAKS (by STRAIN alone).");
        doc.says(19, "2 how many HOURS went by (that in which it BREAKS, too), 3 the SEED then.");
        TwoOnACable x = Check.wired("10:9:100");
        x.thing(0, 20, 0);
        x.thing(0, 20, 1);
        int stays = seedFor(0);
        int out = seedFor(6);
        c.due("it BREAKS in the first HOUR", x.whirls(60, stays, 2), 1);
        c.due("with one SEED", x.whirls(60, stays, 3), seedAfter(stays, 1));
        c.due("and PLACE by it", x.whirls(60, stays, 1), 90);
        c.due("and LENGTH", x.whirls(60, stays, 0), 10);
        c.due("let out it holds", x.whirls(1, out, 0), 13);
        c.due("nothing BREAKS by telling", x.count(8), 0);
        TwoOnACable old = Check.wired("20:5:100o");
        old.thing(0, 20, 0);
        old.thing(3, 20, 0);
        old.thing(0, 17, 0);
        old.thing(0, 20, 1);
        c.due("an OLD one of which all hundredths would break", old.lasts(1, 0), 0);
        c.due("goes on by STRAIN alone", old.whirls(1, stays, 2), 1);
        c.due("at 20", old.whirls(1, stays, 0), 20);
        c.due("it is held", old.hour(0), 20);
        TwoOnACable firm = Check.wired("40:1:999");
        c.due("60 HOURS", firm.whirls(60, 1, 2), 60);
        c.due("60 DRAWS", firm.whirls(60, 1, 3), seedAfter(1, 60));
        whirlsGrow();
    }

    private void whirlsGrow() {
        TwoOnACable live = Check.wired("20:5:100");
        live.thing(0, 20, 0);
        live.thing(3, 20, 0);
        live.thing(0, 17, 0);
        live.thing(0, 20, 1);
        Check.hours(live, 0, 5);
        int stays = seedFor(0);
        c.due("LIVE ones grow in it, and it BREAKS: PLACE", live.whirls(1, stays, 1), 300);
        c.due("so no second HOUR", live.whirls(2, stays, 2), 1);
        c.due("they do not grow by telling", live.about(1, 3), 20);
        c.due("as hour(0) would", live.hour(0), NONE);
    }

    private void draws() {
        doc.says(0, "DRAWS: the next SEED each time: 1103515245 times it and 12345, its rest by 2 to the 31;"
            + " then that by 65536 (rounded down), its rest.");
        TwoOnACable x = Check.wired("20:2:999");
        // 12345 by 65536 is 0: it stays.
        whirl(x, 1, 0, 20, 20, 1, 12345);
        // 1103527590 by 65536 is 16838, rest 3: wound in by 3.
        whirl(x, 1, 1, 17, 20, 1, 1103527590);
        // 1043980748 by 65536 is 15929, rest 4: let out by 1.
        whirl(x, 1, GREATEST, 21, 10, 1, 1043980748);
        whirl(x, 1, GREATEST - 1, (int) (20 + way(seedAfter(GREATEST - 1L, 1))), 20, 1, (int) seedAfter(GREATEST - 1L, 1));
    }

    private static long way(long seed) {
        return new int[] {0, -1, -2, -3, 1, 2, 3}[(int) (seed / 65536 % 7)];
    }

    private void whirlsRefused() {
        doc.says(19, "OUTSIDE: hours (1 to 60), seed (0 at least), what; STATE: no WIRE, or it is BROKEN.");
        for (TwoOnACable x : new TwoOnACable[] {new TwoOnACable(), broken(), Check.wired("10:1:100")}) {
            for (int hours : new int[] {LEAST, -1, 0, 61, GREATEST}) {
                c.refused(x, "whirls(" + hours + ", 0, 0)", () -> x.whirls(hours, 0, 0), OUTSIDE);
            }
            for (int seed : new int[] {LEAST, -1}) {
                c.refused(x, "whirls(1, " + seed + ", 0)", () -> x.whirls(1, seed, 0), OUTSIDE);
            }
            for (int what : new int[] {LEAST, -1, 4, GREATEST}) {
                c.refused(x, "whirls(1, 0, " + what + ")", () -> x.whirls(1, 0, what), OUTSIDE);
            }
        }
        for (TwoOnACable x : new TwoOnACable[] {new TwoOnACable(), broken()}) {
            for (int what = 0; what <= 3; what++) {
                int told = what;
                c.refused(x, "whirls(60, 0, " + what + ")", () -> x.whirls(60, 0, told), STATE);
            }
        }
        TwoOnACable x = Check.wired("40:1:999");
        c.refused(x, "it only tells", () -> x.whirls(60, GREATEST, 2), 60);
    }
}
