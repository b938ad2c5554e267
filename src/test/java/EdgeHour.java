/** Boundary cases of HOURS: EVEN, SOONEST, CAUGHT, and promises 11 to 14. */
final class EdgeHour {
    private static final int OUTSIDE = TwoOnACable.OUTSIDE, STATE = TwoOnACable.STATE, NONE = TwoOnACable.NONE;
    private static final int LEAST = Integer.MIN_VALUE, GREATEST = Integer.MAX_VALUE;

    private final Check c;
    private final Document doc;

    EdgeHour(Check c, Document doc) {
        this.c = c;
        this.doc = doc;
    }

    void run() {
        lengths();
        places();
        breaks();
        breaksByWhatCame();
        hourRefused();
        evenSets();
        evenAlike();
        evenRefused();
        soonestHours();
        soonestFloors();
        soonestNeverBreaks();
        soonestFirst();
        soonestRefused();
        caughtNear();
        caughtHours();
        caughtRefused();
    }

    private static TwoOnACable broken() {
        TwoOnACable x = Check.wired("10:9:100");
        x.thing(0, 20, 0);
        x.thing(0, 20, 1);
        x.hour(0);
        return x;
    }

    private void lengths() {
        doc.says(0, "An HOUR: the WIRE is wound in by 1 to 3, or let out by as many, or stays (LENGTH stays 10 to 40)");
        for (int length = 10; length <= 40; length++) {
            for (int by = -3; by <= 3; by++) {
                TwoOnACable x = Check.wired(length + ":1:999");
                int then = length - by;
                boolean is = then >= 10 && then <= 40;
                c.due("hour(" + by + ") at " + length, x.hour(by), is ? then : STATE);
                c.due("LENGTH then", x.count(0), is ? then : length);
                c.due("HOURS then", x.count(7), is ? 1 : 0);
            }
        }
    }

    private void places() {
        doc.says(0, "then it is an HOUR later, and PLACE (0 to 359; 0 at first) is TURNS times 10 more, as a rest by 360");
        for (int turns = 1; turns <= 9; turns++) {
            TwoOnACable x = Check.wired("10:" + turns + ":999");
            c.due("at first", x.count(6), 0);
            for (int gone = 1; gone <= 37; gone++) {
                x.hour(0);
                c.due("PLACE by " + turns + " after " + gone, x.count(6), gone * turns * 10 % 360);
            }
        }
        TwoOnACable x = Check.wired("20:2:999");
        x.hour(3);
        // 800 by 289 is 2, 800 by 196 is 4: by TURNS at the LENGTH that it has then.
        c.due("by 2 at 17", x.count(6), 20);
        x.hour(3);
        c.due("by 4 at 14", x.count(6), 60);
    }

    private void breaks() {
        doc.says(0, "if STRAIN is more than it BEARS then, the WIRE BREAKS: nothing is wound, carried,"
            + " and no HOUR goes by any more.");
        TwoOnACable x = Check.wired("20:5:100");
        x.thing(0, 20, 0);
        x.thing(3, 20, 0);
        x.thing(0, 17, 0);
        x.thing(0, 20, 1);
        for (int gone = 1; gone <= 5; gone++) {
            c.due("it holds by as much as it BEARS", x.hour(0), 20);
            c.due("STRAIN", x.count(3), 100);
        }
        c.due("LIVE ones weigh more in the sixth HOUR, and count then", x.hour(0), NONE);
        c.due("STRAIN then", x.count(3), 102);
        c.due("BROKEN", x.count(8), 1);
        c.due("that HOUR went by", x.count(7), 6);
        c.due("PLACE in it, too", x.count(6), 300);
        for (int by = -3; by <= 3; by++) {
            int told = by;
            c.refused(x, "hour(" + told + ") of a BROKEN one", () -> x.hour(told), STATE);
        }
        for (int thing = 0; thing < 4; thing++) {
            int told = thing;
            c.refused(x, "carry(" + told + ") of a BROKEN one", () -> x.carry(told), STATE);
        }
    }

    private void breaksByWhatCame() {
        doc.says(11, "An HOUR: it is wound in by so many (1 to 3), or let out by so many (-1 to -3), or stays (0):"
            + " LENGTH then; NONE: the WIRE BREAKS.");
        TwoOnACable x = Check.wired("10:9:100");
        x.thing(0, 20, 0);
        x.thing(0, 20, 1);
        c.due("more than it BEARS before the HOUR", x.count(3), 121);
        c.due("let out by 3: 30 * (6 * 25) by 100 is 45", x.hour(-3), 13);
        c.due("it holds", x.count(8), 0);
        c.due("wound in by 3", x.hour(3), NONE);
        c.due("LENGTH then", x.count(0), 10);
        TwoOnACable old = Check.wired("10:9:100o");
        old.thing(0, 20, 0);
        // 30 * (2 * 81) by 100 is 48.
        for (int i = 0; i < 20; i++) {
            c.due("an OLD one BREAKS by STRAIN alone", old.hour(0), 10);
        }
        old.thing(0, 20, 1);
        c.due("by STRAIN", old.hour(0), NONE);
    }

    private void hourRefused() {
        doc.says(11, "OUTSIDE: by; STATE: no WIRE, it is BROKEN, or LENGTH would be out of 10 to 40.");
        TwoOnACable none = new TwoOnACable();
        TwoOnACable broken = broken();
        TwoOnACable least = Check.wired("10:1:100");
        TwoOnACable greatest = Check.wired("40:1:100");
        for (TwoOnACable x : new TwoOnACable[] {none, broken, least, greatest}) {
            for (int by : new int[] {LEAST, -4, 4, GREATEST}) {
                c.refused(x, "hour(" + by + ")", () -> x.hour(by), OUTSIDE);
            }
        }
        for (int by = -3; by <= 3; by++) {
            int told = by;
            c.refused(none, "hour(" + by + ") without a WIRE", () -> none.hour(told), STATE);
            c.refused(broken, "hour(" + by + ") of a BROKEN one", () -> broken.hour(told), STATE);
        }
        for (int by = 1; by <= 3; by++) {
            int told = by;
            c.refused(least, "hour(" + by + ") at 10", () -> least.hour(told), STATE);
            c.refused(greatest, "hour(" + -by + ") at 40", () -> greatest.hour(-told), STATE);
        }
        c.due("it stays at 10", least.hour(0), 10);
        c.due("it stays at 40", greatest.hour(0), 40);
    }

    private void evenSets() {
        doc.says(0, "EVEN: of all sets of THINGS that could be carried (each to the other CABIN)"
            + " that by which FLOORS are nearest to one another");
        evenIs(Check.wired("20:3:999"), "none to carry", 0, 0);
        evenIs(Check.wired("21:3:999"), "none to carry at 21: 10 * 9 and 11 * 9", 9, 0);
        TwoOnACable one = Check.wired("20:1:999");
        one.thing(0, 1, 0);
        // 20 * 10 / 21 is 9; carried 20 * 11 / 21 is 10.
        evenIs(one, "all of them", 0, 1);
        one.carry(0);
        evenIs(one, "none of them", 0, 0);
        TwoOnACable six = Check.wired("20:1:999");
        for (int i = 0; i < 6; i++) {
            six.thing(0, 1 << i > 20 ? 20 : 1 << i, 0);
        }
        // 1, 2, 4, 8, 16, 20: 26 across is 36 of 71, ARMS of 10 and 10: by 2, 8, 16, or by 2, 4, 20.
        evenIs(six, "three of six", 0, 26);
        TwoOnACable last = Check.wired("20:3:999");
        for (int i = 0; i < 6; i++) {
            last.thing(i < 5 ? 2 : 0, i < 5 ? 1 : 20, 0);
        }
        // Of five GUESTS at 3 none goes: ARMS of 4 and 16, by the sixth of 13 and 7.
        evenIs(last, "the sixth of six", 54, 32);
        evenChanges();
        TwoOnACable guests = Check.wired("20:3:999");
        guests.thing(2, 20, 0);
        guests.thing(0, 20, 0);
        evenIs(guests, "a GUEST could not at 3", 0, 2);
        guests.carry(1);
        guests.thing(2, 20, 0);
        // 50 against 30: 20 * 30 / 80 is 7; by the 20 back it is 20 * 10 / 80, or 2.
        evenIs(guests, "nor two of them: 7 * 9 and 13 * 9", 54, 0);
        TwoOnACable slow = Check.wired("20:2:999");
        slow.thing(2, 20, 0);
        slow.thing(0, 20, 0);
        evenIs(slow, "a GUEST could at 2", 0, 1);
        TwoOnACable still = Check.wired("10:1:999");
        still.thing(0, 20, 0);
        still.hour(-1);
        evenIs(still, "without TURNS all are alike", 0, 0);
    }

    /** Who could be carried is asked anew each time. */
    private void evenChanges() {
        TwoOnACable x = withThings("17:3:999", new int[][] {{2, 20, 0}, {0, 20, 0}});
        evenIs(x, "a GUEST could not at 3", 9, 2);
        x.hour(-1);
        evenIs(x, "he could at 2", 0, 1);
        x.hour(1);
        evenIs(x, "he could not again", 9, 2);
        x.image();
        x.carry(1);
        x.thing(0, 20, 0);
        // 50 and 30, ARMS 6 and 11; the third across 30 and 50, 10 and 7.
        evenIs(x, "a third", 27, 4);
        x.restore();
        evenIs(x, "the third is gone", 9, 2);
    }

    private void evenIs(TwoOnACable x, String what, int apart, int bits) {
        c.due("even(0), " + what, x.even(0), apart);
        c.due("even(1), " + what, x.even(1), bits);
    }

    private void evenAlike() {
        doc.says(0, "of like ones the least WEIGHT (what they weigh now) together, then least bits.");
        TwoOnACable bits = withThings("20:2:999", new int[][] {{0, 10, 0}, {0, 6, 0}, {0, 4, 0}});
        evenIs(bits, "10 alone, or 6 and 4", 0, 1);
        TwoOnACable others = withThings("20:2:999", new int[][] {{0, 4, 0}, {0, 6, 0}, {0, 10, 0}});
        evenIs(others, "4 and 6, or 10 alone", 0, 3);
        TwoOnACable cook = withThings("20:2:999", new int[][] {{1, 9, 0}, {0, 10, 0}, {0, 1, 1}});
        // 21 + 10 of 42 are in CABIN 0: 10 across makes 21 and 21, the COOK's 11 and the 1 as well.
        evenIs(cook, "the least WEIGHT goes ahead of the least bits", 0, 2);
        TwoOnACable hens = withThings("20:2:999", new int[][] {{4, 8, 0}, {0, 9, 0}, {0, 1, 0}});
        // 28 against 10: 9 across makes 19 and 19; 8 and 1 as well.
        evenIs(hens, "HENS of 8 and 1, or 9: least bits", 0, 2);
        Check.hours(hens, 0, 6);
        // HENS weigh 10: 30 against 10: 10 across, or 9 and 1.
        evenIs(hens, "as they weigh now", 0, 1);
        TwoOnACable none = withThings("20:2:999", new int[][] {{0, 5, 0}, {0, 5, 1}});
        evenIs(none, "none weighs least", 0, 0);
    }

    private static TwoOnACable withThings(String text, int[][] things) {
        TwoOnACable x = Check.wired(text);
        for (int[] one : things) {
            x.thing(one[0], one[1], one[2]);
        }
        return x;
    }

    private void evenRefused() {
        doc.says(12, "EVEN: what = 0 how far FLOORS are apart then, 1 which, as bits. OUTSIDE; STATE: no WIRE, or it is BROKEN.");
        for (TwoOnACable x : new TwoOnACable[] {new TwoOnACable(), broken(), Check.wired("10:1:100")}) {
            for (int what : new int[] {LEAST, -1, 2, GREATEST}) {
                c.refused(x, "even(" + what + ")", () -> x.even(what), OUTSIDE);
            }
        }
        for (TwoOnACable x : new TwoOnACable[] {new TwoOnACable(), broken()}) {
            c.refused(x, "even(0)", () -> x.even(0), STATE);
            c.refused(x, "even(1)", () -> x.even(1), STATE);
        }
        TwoOnACable x = withThings("20:2:999", new int[][] {{0, 10, 0}});
        c.refused(x, "even() only tells", () -> x.even(1), 1);
    }

    private void soonestIs(TwoOnACable x, int floor, int hours, int first) {
        c.due("soonest(" + floor + ", 0)", x.soonest(floor, 0), hours);
        c.due("soonest(" + floor + ", 1)", x.soonest(floor, 1), first);
    }

    private void soonestHours() {
        doc.says(0, "SOONEST: the fewest HOURS (0 to 12)");
        TwoOnACable x = withThings("40:1:999", new int[][] {{4, 1, 1}});
        soonestIs(x, 20, 0, NONE);
        soonestIs(x, 22, 6, 0);
        // HENS weigh 2 more in 6 HOURS, 4 more in 12, 6 more in 18: ARMS of 20, 22, 24, 25.
        soonestIs(x, 24, 12, 0);
        soonestIs(x, 25, NONE, NONE);
        Check.hours(x, 0, 5);
        soonestIs(x, 24, 7, 0);
        soonestIs(x, 25, NONE, NONE);
        x.hour(0);
        soonestIs(x, 25, 12, 0);
        Check.hours(x, 0, 6);
        soonestIs(x, 24, 0, NONE);
        TwoOnACable first = withThings("40:9:999", new int[][] {{4, 10, 0}});
        // 13 * 81 at 40 and at 39, 12 * 81 at 38, 12 * 100 at 37; in 6 HOURS HENS weigh 12: 11 * 81 at 38.
        soonestIs(first, 702, 0, NONE);
        soonestIs(first, 701, 1, 2);
        soonestIs(first, 640, 6, 0);
        TwoOnACable most = Check.wired("40:1:999");
        Check.hours(most, 1, 2);
        // 20 at 40 alone; 19 at 38 and 39.
        soonestIs(most, 20, 1, 5);
        doc.says(13, "SOONEST: what = 0 how many HOURS, 1 what to do first (NONE: it is had); NONE: not in 12.");
        soonestIs(x, 25, 6, 0);
        soonestIs(Check.wired("10:1:999"), 1, NONE, NONE);
    }

    private void soonestFloors() {
        doc.says(0, "a told FLOOR (so much or more, but no more than half as much again, rounded down) is had in CABIN 0");
        // FLOOR 5 at 10; none at 11 or more, as TURNS are 0 there.
        TwoOnACable five = Check.wired("10:1:999");
        soonestIs(five, 5, 0, NONE);
        soonestIs(five, 6, NONE, NONE);
        soonestIs(five, 4, 0, NONE);
        soonestIs(five, 3, NONE, NONE);
        TwoOnACable six = Check.wired("12:1:999");
        six.thing(0, 1, 1);
        // 12 * 11 / 21 is 6: it is 4 and half of 4; wound in to 11 it is 5.
        soonestIs(six, 4, 0, NONE);
        soonestIs(six, 6, 0, NONE);
        soonestIs(six, 7, NONE, NONE);
        TwoOnACable one = withThings("10:1:999",
            new int[][] {{0, 20, 0}, {0, 20, 0}, {0, 20, 0}, {0, 20, 0}});
        // 10 * 10 / 100 is 1: 1 and half as much again is 1.
        soonestIs(one, 1, 0, NONE);
        soonestIs(one, 2, NONE, NONE);
        TwoOnACable two = withThings("10:1:999", new int[][] {{0, 20, 0}, {0, 10, 0}});
        // 10 * 10 / 50 is 2: of 1 it is twice as much.
        soonestIs(two, 2, 0, NONE);
        soonestIs(two, 1, NONE, NONE);
    }

    private void soonestNeverBreaks() {
        doc.says(0, "nothing carried, and the WIRE never BREAKS");
        TwoOnACable firm = Check.wired("40:1:128");
        soonestIs(firm, 1280, 10, 3);
        TwoOnACable weak = Check.wired("40:1:127");
        soonestIs(weak, 1280, NONE, NONE);
        TwoOnACable old = Check.wired("40:1:128o");
        soonestIs(old, 1280, 10, 3);
        // At 10, 30 * (5 * 81) by 100 is 121, more than it BEARS: it is had, but goes on let out alone.
        TwoOnACable strained = withThings("10:9:100", new int[][] {{0, 20, 0}, {0, 20, 1}});
        soonestIs(strained, 405, 0, NONE);
        // At 11, 30 * (5 * 49) by 100 is 73.
        soonestIs(strained, 245, 1, 4);
        soonestIs(strained, 406, NONE, NONE);
        // 6 * 256 at 10: STRAIN 10 * 1536 by 100 is 153; of the other CABIN's FLOOR it would be 102.
        soonestIs(withThings("40:1:153", new int[][] {{0, 10, 1}}), 1536, 10, 3);
        soonestIs(withThings("40:1:152", new int[][] {{0, 10, 1}}), 1536, NONE, NONE);
        // 3 * 256 at 10: STRAIN 20 * 768 by 100 is 153; of the other's it would be 358.
        soonestIs(withThings("40:1:153", new int[][] {{0, 10, 0}}), 768, 10, 3);
        soonestIs(withThings("40:1:152", new int[][] {{0, 10, 0}}), 768, NONE, NONE);
        TwoOnACable carried = withThings("20:1:999", new int[][] {{0, 20, 1}});
        c.due("30 by carrying is not meant", carried.cabin(0, 2), 15);
        carried.carry(0);
        soonestIs(carried, 5, 0, NONE);
    }

    private void soonestFirst() {
        doc.says(0, "what to do first: of all such the least: 0 stays, 1 to 3 wound in by so many, 4 to 6 let out by 1 to 3.");
        // SPIN 900: FLOORS of 15 at 30, 11 at 22, 10 * 4 at 21 and 20, 9 * 4, 8 * 9 at 17 and 16, 7 * 16 at 15 and 14.
        TwoOnACable wound = Check.wired("30:1:999");
        soonestIs(wound, 40, 3, 3);
        // 13 in 5 HOURS: by 1 and four times 3; 14 would be by 2 at least.
        soonestIs(wound, 72, 5, 1);
        soonestIs(wound, 112, 5, 3);
        soonestIs(wound, 44, NONE, NONE);
        TwoOnACable still = Check.wired("30:1:999");
        still.hour(-3);
        still.hour(-3);
        // At 36 without TURNS: FLOORS of 15 at 30, of 14 at 29, each of 13 and less below.
        soonestIs(still, 15, 2, 3);
        soonestIs(still, 14, 2, 3);
        soonestIs(still, 10, 2, 3);
        soonestIs(still, 9, 3, 3);
        // 12 at 25, 11 off in 4 HOURS.
        soonestIs(still, 8, 4, 2);
        TwoOnACable wide = Check.wired("10:9:999");
        // 5 * 81 at 10, 5 * 49 at 11, 6 * 36 at 12, 6 * 25 at 13: let out by 1, by 2, by 3.
        soonestIs(wide, 245, 1, 4);
        soonestIs(wide, 216, 1, 4);
        soonestIs(wide, 163, 1, 5);
        soonestIs(wide, 164, 1, 4);
        soonestIs(wide, 150, 1, 5);
        soonestIs(wide, 143, 1, 6);
        soonestIs(wide, 101, 1, 6);
        // 7 * 16 at 14 and 15: 4 off, and none is by 4.
        soonestIs(wide, 75, 2, 4);
        TwoOnACable stays = withThings("40:1:999", new int[][] {{3, 1, 1}});
        // LIVE of 1 in CABIN 1: 40 * 11 / 21 is 20, 40 * 12 / 22 is 21 after 6 HOURS.
        soonestIs(stays, 21, 6, 0);
        Check.hours(stays, 0, 5);
        soonestIs(stays, 21, 1, 0);
    }

    private void soonestRefused() {
        doc.says(13, "OUTSIDE: floor (1 to 9999), what; STATE: no WIRE, or it is BROKEN.");
        for (TwoOnACable x : new TwoOnACable[] {new TwoOnACable(), broken(), Check.wired("10:1:100")}) {
            for (int floor : new int[] {LEAST, -1, 0, 10000, GREATEST}) {
                c.refused(x, "soonest(" + floor + ", 0)", () -> x.soonest(floor, 0), OUTSIDE);
                c.refused(x, "soonest(" + floor + ", 1)", () -> x.soonest(floor, 1), OUTSIDE);
            }
            for (int what : new int[] {LEAST, -1, 2, GREATEST}) {
                c.refused(x, "soonest(1, " + what + ")", () -> x.soonest(1, what), OUTSIDE);
                c.refused(x, "soonest(9999, " + what + ")", () -> x.soonest(9999, what), OUTSIDE);
            }
        }
        for (TwoOnACable x : new TwoOnACable[] {new TwoOnACable(), broken()}) {
            c.refused(x, "soonest(1, 0)", () -> x.soonest(1, 0), STATE);
            c.refused(x, "soonest(9999, 1)", () -> x.soonest(9999, 1), STATE);
        }
        TwoOnACable x = Check.wired("40:9:999");
        c.refused(x, "9999 without breaking", () -> x.soonest(9999, 0), NONE);
        c.refused(x, "1", () -> x.soonest(1, 0), NONE);
    }

    private void caughtIs(TwoOnACable x, int hours, int due) {
        c.due("caught(" + hours + ")", x.caught(hours), due);
    }

    private void caughtNear() {
        doc.says(0, "PLACE (LENGTH as it is) is no further than 5, the one way round or the other,"
            + " from (90 less so many HOURS times TURNS, as a rest by 360); none.");
        TwoOnACable slow = Check.wired("10:1:999");
        // PLACE is 0 now, then 10, 20, ... From 5, 6, 355, 354.
        caughtIs(slow, 85, 0);
        caughtIs(slow, 84, 1);
        caughtIs(slow, 90, 0);
        caughtIs(slow, 91, 0);
        caughtIs(slow, 95, 0);
        caughtIs(slow, 96, 35);
        caughtIs(slow, 5, 8);
        caughtIs(slow, 4, 9);
        caughtIs(slow, 15, 7);
        caughtIs(slow, 1, 9);
        caughtIs(slow, 99, 35);
        doc.says(0, "CAUGHT: a THING let go at a PLACE goes straight on; next door somebody stands by at PLACE 90.");
        TwoOnACable quick = Check.wired("10:9:999");
        // PLACES 0, 90, 180, 270 alone; from 9, 0, 351 (and so on by 9).
        caughtIs(quick, 9, NONE);
        caughtIs(quick, 10, 0);
        caughtIs(quick, 11, NONE);
        caughtIs(quick, 20, 3);
        caughtIs(quick, 30, 2);
        // 90 less 360, less 720: from 90.
        caughtIs(quick, 40, 1);
        caughtIs(quick, 80, 1);
        quick.hour(0);
        quick.hour(0);
        quick.hour(0);
        caughtIs(quick, 20, 0);
        caughtIs(quick, 10, 1);
        TwoOnACable at355 = Check.wired("10:5:999");
        Check.hours(at355, 0, 7);
        // PLACE 350: from 355 and 345 it is 5, from 340 it is 10.
        c.due("PLACE", at355.count(6), 350);
        caughtIs(at355, 19, 0);
        caughtIs(at355, 21, 0);
        caughtIs(at355, 22, 7);
    }

    private void caughtHours() {
        doc.says(0, "It is CAUGHT in so many HOURS (1 to 99), the WIRE as it is,"
            + " at the first HOUR (0 to 98) from now on in whose beginning");
        TwoOnACable still = Check.wired("10:1:999");
        Check.hours(still, 0, 8);
        still.hour(-1);
        c.due("no TURNS", still.count(1), 0);
        c.due("PLACE is 80", still.count(6), 80);
        caughtIs(still, 1, NONE);
        caughtIs(still, 99, NONE);
        TwoOnACable there = Check.wired("10:1:999");
        Check.hours(there, 0, 9);
        there.hour(-1);
        c.due("PLACE is 90", there.count(6), 90);
        caughtIs(there, 1, 0);
        caughtIs(there, 99, 0);
        TwoOnACable round = Check.wired("10:7:999");
        // By 70 an HOUR all of the 36 PLACES come, the last, 290, in the 35th.
        // From 250, 320 and 289.
        caughtIs(round, 80, 19);
        caughtIs(round, 70, 20);
        caughtIs(round, 23, 35);
        c.due("it only tells", round.count(7), 0);
        TwoOnACable breaking = withThings("10:9:100", new int[][] {{0, 20, 0}, {0, 20, 1}});
        // From 0 and from 90: the WIRE as it is, though it would BREAK by then.
        caughtIs(breaking, 10, 0);
        caughtIs(breaking, 40, 1);
    }

    private void caughtRefused() {
        doc.says(14, "CAUGHT; NONE. OUTSIDE: hours (1 to 99); STATE: no WIRE, or it is BROKEN.");
        for (TwoOnACable x : new TwoOnACable[] {new TwoOnACable(), broken(), Check.wired("10:1:100")}) {
            for (int hours : new int[] {LEAST, -1, 0, 100, GREATEST}) {
                c.refused(x, "caught(" + hours + ")", () -> x.caught(hours), OUTSIDE);
            }
        }
        for (TwoOnACable x : new TwoOnACable[] {new TwoOnACable(), broken()}) {
            c.refused(x, "caught(1)", () -> x.caught(1), STATE);
            c.refused(x, "caught(99)", () -> x.caught(99), STATE);
        }
        TwoOnACable x = Check.wired("10:9:999");
        c.refused(x, "caught(1): from 81", () -> x.caught(1), NONE);
    }
}
