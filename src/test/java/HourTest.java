/** Promises 11 to 14: hour, even, soonest, caught. */
final class HourTest {
    private static final Check C = new Check();
    private static final int OUTSIDE = TwoOnACable.OUTSIDE, STATE = TwoOnACable.STATE, NONE = TwoOnACable.NONE;

    public static void main(String[] args) {
        hour();
        hourEnds();
        hourBreaks();
        hourRefused();
        even();
        evenGuests();
        soonest();
        soonestOldAndGrowing();
        caught();
        refusedAlike();
        C.end("HourTest");
    }

    private static void hour() {
        TwoOnACable x = Check.wired("30:4:999");
        C.due("stays", x.hour(0), 30);
        C.due("PLACE by 4 TURNS", x.count(6), 40);
        C.due("one HOUR", x.count(7), 1);
        C.due("wound in", x.hour(3), 27);
        C.due("TURNS at 27", x.count(1), 4);
        C.due("wound in by one", x.hour(1), 26);
        C.due("TURNS at 26", x.count(1), 5);
        C.due("PLACE by the TURNS at the LENGTH then", x.count(6), 130);
        C.due("let out by two", x.hour(-2), 28);
        C.due("PLACE by 4 again", x.count(6), 170);
        Check.hours(x, 0, 4);
        C.due("330", x.count(6), 330);
        x.hour(0);
        C.due("as a rest by 360", x.count(6), 10);
        C.due("nine HOURS", x.count(7), 9);
        C.due("SPIN is kept", x.count(2), 3600);
    }

    private static void hourEnds() {
        TwoOnACable x = Check.wired("12:1:999");
        C.refused(x, "to 9", () -> x.hour(3), STATE);
        C.due("to 10", x.hour(2), 10);
        C.refused(x, "below 10", () -> x.hour(1), STATE);
        TwoOnACable y = Check.wired("38:1:999");
        C.refused(y, "to 41", () -> y.hour(-3), STATE);
        C.due("to 40", y.hour(-2), 40);
        C.refused(y, "above 40", () -> y.hour(-1), STATE);
    }

    private static void hourBreaks() {
        TwoOnACable just = Check.wired("20:9:100");
        just.thing(0, 1, 0);
        C.due("11 * (9 * 81) / 100", just.count(3), 80);
        C.due("it holds", just.hour(0), 20);
        C.due("TURNS at 19", just.hour(1), 19);
        C.due("11 * (9 * 81) / 100 at 19", just.count(3), 80);
        C.due("at 18: 11 * (8 * 121) / 100", just.hour(1), NONE);
        C.due("STRAIN", just.count(3), 106);
        C.due("BROKEN", just.count(8), 1);
        C.due("LENGTH then", just.count(0), 18);
        C.due("HOURS then", just.count(7), 3);
        C.due("PLACE then", just.count(6), (90 + 90 + 110) % 360);
        C.refused(just, "no HOUR goes by", () -> just.hour(0), STATE);
        TwoOnACable edge = Check.wired("20:5:100");
        edge.thing(0, 20, 0);
        edge.thing(0, 20, 1);
        edge.thing(0, 10, 0);
        C.due("40 * (8 * 25) / 100", edge.count(3), 80);
        edge.thing(0, 20, 0);
        C.due("60 * (6 * 25) / 100", edge.count(3), 90);
        C.due("it holds 90", edge.hour(0), 20);
        edge.thing(0, 7, 0);
        C.due("67 * (6 * 25) / 100", edge.count(3), 100);
        C.due("as much as it bears does not break it", edge.hour(0), 20);
        edge.thing(0, 1, 0);
        C.due("68 * (6 * 25) / 100 is more", edge.count(3), 102);
        C.due("no HOUR has gone by yet", edge.count(8), 0);
        C.due("it breaks", edge.hour(0), NONE);
    }

    private static void hourRefused() {
        TwoOnACable none = new TwoOnACable();
        C.refused(none, "by 4, no wire", () -> none.hour(4), OUTSIDE);
        C.refused(none, "no wire", () -> none.hour(0), STATE);
        TwoOnACable x = Check.wired("10:1:999");
        C.refused(x, "by 4", () -> x.hour(4), OUTSIDE);
        C.refused(x, "by -4", () -> x.hour(-4), OUTSIDE);
        C.refused(x, "by the least int", () -> x.hour(Integer.MIN_VALUE), OUTSIDE);
        C.refused(x, "by the greatest int", () -> x.hour(Integer.MAX_VALUE), OUTSIDE);
    }

    private static void even() {
        TwoOnACable x = Check.wired("20:2:999");
        C.due("nothing to carry", x.even(0), 0);
        C.due("no bits", x.even(1), 0);
        x.thing(0, 10, 0);
        x.thing(0, 10, 0);
        C.due("one of two alike, the least bits", x.even(1), 1);
        C.due("even", x.even(0), 0);
        C.due("it only tells", x.about(0, 2), 0);
        TwoOnACable y = Check.wired("20:2:999");
        y.thing(0, 12, 0);
        y.thing(0, 2, 1);
        y.thing(0, 5, 0);
        y.thing(0, 5, 0);
        // 32 and 12: 10 across makes it even; 12 and back 2 weighs more than 5 and 5.
        C.due("the least WEIGHT", y.even(1), 12);
        TwoOnACable z = Check.wired("20:2:999");
        z.thing(1, 8, 0);
        z.thing(0, 10, 0);
        // The COOK's 10 are like the THING's: least bits, not least WEIGHT as it came.
        C.due("what they weigh now", z.even(1), 1);
        TwoOnACable less = Check.wired("20:2:999");
        less.thing(0, 9, 0);
        less.thing(0, 1, 0);
        // 11 and 19: ARMS 12 and 8; by the 1 alone 7 and 13.
        C.due("how near goes ahead of the least WEIGHT", less.even(1), 1);
        C.due("12 and 8 are 16 apart", less.even(0), 16);
        TwoOnACable near = Check.wired("11:1:999");
        C.due("an odd LENGTH is not even", near.even(0), 1);
    }

    private static void evenGuests() {
        TwoOnACable x = Check.wired("20:3:999");
        x.thing(2, 20, 0);
        x.thing(0, 20, 0);
        C.due("a GUEST does not go at 3", x.even(1), 2);
        C.due("even so", x.even(0), 0);
        x.carry(1);
        x.thing(2, 6, 0);
        C.due("nobody else can", x.even(1), 0);
        TwoOnACable y = Check.wired("20:2:999");
        y.thing(2, 20, 0);
        y.thing(0, 20, 0);
        C.due("a GUEST goes at 2", y.even(1), 1);
        y.hour(3);
        y.hour(1);
        C.due("TURNS at 16", y.count(1), 3);
        C.due("he goes no more", y.even(1), 2);
    }

    private static void soonest() {
        TwoOnACable x = Check.wired("20:2:900");
        // FLOOR: 10 * 4 is 40.
        C.due("had", x.soonest(40, 0), 0);
        C.due("had: nothing first", x.soonest(40, 1), NONE);
        C.due("27 and half as much again is 40", x.soonest(27, 0), 0);
        C.due("26 and 13 is 39, not 40: at 19, 9 * 4", x.soonest(26, 0), 1);
        C.due("60 to 90: at 16, 8 * 9", x.soonest(60, 0), 2);
        C.due("60 to 90: by the least first", x.soonest(60, 1), 1);
        C.due("12: at 24, by 1 and by 3", x.soonest(12, 0), 2);
        C.due("12: by the least first, and none is by 4", x.soonest(12, 1), 4);
        C.due("9999 is asked for, not had", x.soonest(9999, 0), NONE);
        C.due("10: let out by one", x.soonest(10, 0), 1);
        C.due("10: it is 4", x.soonest(10, 1), 4);
        C.due("1 is had nowhere", x.soonest(1, 0), NONE);
        C.due("nor 1 first", x.soonest(1, 1), NONE);
        C.due("it only tells", x.count(7), 0);
        TwoOnACable weak = Check.wired("40:1:100");
        // At 14, 8 TURNS: 7 * 64 is 448; 10 * 448 / 100 is 44; at 10, 16 TURNS: 5 * 256 is 1280, 128 in all.
        C.due("448 without breaking", weak.soonest(448, 0), 9);
        C.due("1280 would break it", weak.soonest(1280, 0), NONE);
        TwoOnACable firm = Check.wired("40:1:128");
        C.due("1280 holds by 128", firm.soonest(1280, 0), 10);
        C.due("and stays first", firm.soonest(1280, 1), 3);
        TwoOnACable far = Check.wired("10:9:999");
        C.due("40 in ten: 0 TURNS there", far.soonest(1, 0), NONE);
    }

    private static void soonestOldAndGrowing() {
        TwoOnACable x = Check.wired("40:1:128o");
        C.due("an OLD one BREAKS by STRAIN alone", x.soonest(1280, 0), 10);
        TwoOnACable y = Check.wired("40:1:999");
        y.thing(4, 1, 1);
        C.due("FLOOR at 40", y.cabin(0, 2), 20);
        C.due("22: as HENS weigh 2 more in 6 HOURS", y.soonest(22, 0), 6);
        C.due("by staying first", y.soonest(22, 1), 0);
        // 15 against 10 in 12 HOURS: 24, which no LENGTH has before.
        C.due("24: in just 12", y.soonest(24, 0), 12);
        Check.hours(y, 0, 5);
        C.due("24: in 7 more", y.soonest(24, 0), 7);
        // 17 against 10 in 18 HOURS: 25.
        C.due("25: it would be 13", y.soonest(25, 0), NONE);
        TwoOnACable z = Check.wired("40:9:999");
        z.thing(4, 10, 0);
        C.due("40 * 10 / 30 is 13", z.cabin(0, 2), 1053);
        // 640 to 960: at 38 it is 12 * 81, still too much; HENS weigh 2 more in 6 HOURS: 11 * 81.
        C.due("640: as HENS grow in CABIN 0", z.soonest(640, 0), 6);
        C.due("640: by staying first", z.soonest(640, 1), 0);
    }

    private static void caught() {
        TwoOnACable x = Check.wired("20:2:999");
        // PLACE 0, 20 an HOUR; in 5 HOURS: from 80.
        C.due("80 is hit", x.caught(5), 4);
        C.due("76 is 4 less", x.caught(7), 4);
        C.due("74: 60 and 80 are too far", x.caught(8), NONE);
        C.due("84 is 4 more", x.caught(3), 4);
        C.due("86 is 6 off both", x.caught(2), NONE);
        C.due("88 less 90 is -2: near 0", x.caught(46), 0);
        C.due("355 at 0 by the other way", Check.wired("10:5:999").caught(19), 0);
        C.due("5 at 0", Check.wired("10:5:999").caught(17), 0);
        C.due("0 to 98 only", Check.wired("40:1:999").caught(99), 35);
        TwoOnACable still = Check.wired("10:1:999");
        Check.hours(still, -3, 10);
        C.due("no TURNS", still.count(1), 0);
        int place = still.count(6);
        C.due("it stands where it stands", still.caught(1), Math.abs(place - 90) <= 5 ? 0 : NONE);
    }

    private static void refusedAlike() {
        TwoOnACable none = new TwoOnACable();
        TwoOnACable broken = Check.wired("10:9:100");
        broken.thing(0, 20, 0);
        broken.thing(0, 20, 1);
        broken.hour(0);
        C.due("it is BROKEN", broken.count(8), 1);
        for (TwoOnACable x : new TwoOnACable[] {none, broken}) {
            for (int what = 0; what <= 1; what++) {
                int told = what;
                C.refused(x, "even(" + told + ")", () -> x.even(told), STATE);
                C.refused(x, "soonest(1, " + told + ")", () -> x.soonest(1, told), STATE);
            }
            C.refused(x, "caught(1)", () -> x.caught(1), STATE);
            outside(x);
        }
        outside(Check.wired("20:2:900"));
    }

    private static void outside(TwoOnACable x) {
        C.refused(x, "even(-1)", () -> x.even(-1), OUTSIDE);
        C.refused(x, "even(2)", () -> x.even(2), OUTSIDE);
        C.refused(x, "soonest(0, 0)", () -> x.soonest(0, 0), OUTSIDE);
        C.refused(x, "soonest(10000, 0)", () -> x.soonest(10000, 0), OUTSIDE);
        C.refused(x, "soonest(1, -1)", () -> x.soonest(1, -1), OUTSIDE);
        C.refused(x, "soonest(1, 2)", () -> x.soonest(1, 2), OUTSIDE);
        C.refused(x, "caught(0)", () -> x.caught(0), OUTSIDE);
        C.refused(x, "caught(100)", () -> x.caught(100), OUTSIDE);
    }
}
