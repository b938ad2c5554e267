/** Boundary cases of CABINS and THINGS: what the Terms tell of them, and promises 6 to 10. */
final class EdgeCabin {
    private static final int UNKNOWN = TwoOnACable.UNKNOWN, OUTSIDE = TwoOnACable.OUTSIDE,
        STATE = TwoOnACable.STATE, FULL = TwoOnACable.FULL, NONE = TwoOnACable.NONE;
    private static final int LEAST = Integer.MIN_VALUE, GREATEST = Integer.MAX_VALUE;

    private final Check c;
    private final Document doc;

    EdgeCabin(Check c, Document doc) {
        this.c = c;
        this.doc = doc;
    }

    void run() {
        twoCabins();
        arms();
        floors();
        turns();
        strain();
        sixThings();
        kindsAndWeights();
        kindsOfKinds();
        weights();
        hoursHere();
        thingRefused();
        about();
        as();
        guests();
        carrying();
        carryRefused();
    }

    private void twoCabins() {
        doc.says(0, "TWO CABINS, 0 and 1, hang at its ends.");
        TwoOnACable x = Check.wired("21:2:100");
        for (int cabin : new int[] {LEAST, -1, 2, GREATEST}) {
            c.refused(x, "cabin(" + cabin + ", 0)", () -> x.cabin(cabin, 0), UNKNOWN);
            c.refused(x, "thing(0, 1, " + cabin + ")", () -> x.thing(0, 1, cabin), UNKNOWN);
        }
        doc.says(6, "Of a CABIN: what = 0 what it weighs, 1 its ARM, 2 its FLOOR, 3 how many THINGS are in it.");
        int[][] due = {{10, 10, 40, 0}, {10, 11, 44, 0}};
        for (int cabin = 0; cabin <= 1; cabin++) {
            for (int what = 0; what <= 3; what++) {
                c.due("cabin(" + cabin + ", " + what + ") of an empty one", x.cabin(cabin, what), due[cabin][what]);
            }
        }
        for (int i = 0; i < 6; i++) {
            x.thing(0, 20, 1);
        }
        c.due("none in CABIN 0", x.cabin(0, 3), 0);
        c.due("six in CABIN 1", x.cabin(1, 3), 6);
        doc.says(6, "UNKNOWN; OUTSIDE; STATE: no WIRE.");
        TwoOnACable none = new TwoOnACable();
        for (int what : new int[] {LEAST, -1, 4, GREATEST}) {
            c.refused(x, "cabin(1, " + what + ")", () -> x.cabin(1, what), OUTSIDE);
            c.refused(none, "OUTSIDE ahead of STATE: " + what, () -> none.cabin(0, what), OUTSIDE);
            c.refused(none, "UNKNOWN ahead of both: " + what, () -> none.cabin(2, what), UNKNOWN);
        }
        for (int what = 0; what <= 3; what++) {
            int told = what;
            c.refused(none, "no WIRE", () -> none.cabin(1, told), STATE);
        }
        c.due("of a BROKEN one", broken().cabin(0, 0), 30);
    }

    private static TwoOnACable broken() {
        TwoOnACable x = Check.wired("10:9:100");
        x.thing(0, 20, 0);
        x.thing(0, 20, 1);
        x.hour(0);
        return x;
    }

    private void arms() {
        doc.says(0, "ARM of a CABIN: LENGTH times what the other CABIN weighs, by what both weigh (rounded down);"
            + " of CABIN 1: the rest of LENGTH.");
        TwoOnACable x = Check.wired("39:1:100");
        x.thing(0, 20, 1);
        // 39 * 30 / 40 is 29.25; 39 * 10 / 40 is 9.75.
        c.due("rounded down", x.cabin(0, 1), 29);
        c.due("the rest, not rounded down itself", x.cabin(1, 1), 10);
        TwoOnACable y = Check.wired("40:1:100");
        y.thing(0, 20, 1);
        c.due("nothing to round", y.cabin(0, 1), 30);
        c.due("nothing to round in the rest", y.cabin(1, 1), 10);
        TwoOnACable z = Check.wired("10:1:100");
        for (int i = 0; i < 5; i++) {
            z.thing(0, 20, 0);
        }
        // 10 * 10 / 120: less than 1.
        c.due("an ARM of 0", z.cabin(0, 1), 0);
        c.due("the whole LENGTH", z.cabin(1, 1), 10);
        c.due("a FLOOR of 0 by it", z.cabin(0, 2), 0);
        c.due("a STRAIN of 0 by it", z.count(3), 0);
    }

    private void floors() {
        doc.says(0, "FLOOR of a CABIN: its ARM times TURNS times TURNS.");
        TwoOnACable x = Check.wired("11:9:100");
        c.due("5 * 81", x.cabin(0, 2), 405);
        c.due("6 * 81", x.cabin(1, 2), 486);
        TwoOnACable still = Check.wired("10:1:100");
        still.hour(-1);
        c.due("no TURNS, no FLOOR in CABIN 0", still.cabin(0, 2), 0);
        c.due("no TURNS, no FLOOR in CABIN 1", still.cabin(1, 2), 0);
        c.due("and no STRAIN", still.count(3), 0);
    }

    private void turns() {
        doc.says(0, "TURNS at a LENGTH: SPIN by the LENGTH times itself (rounded down).");
        TwoOnACable x = Check.wired("30:1:999");
        int[] due = {1, 1, 1, 1, 1, 1, 1, 1, 1, 2, 2, 2, 2, 3, 3, 4, 4, 5, 6, 7, 9};
        for (int wound = 0; wound < due.length; wound++) {
            c.due("TURNS at " + (30 - wound), x.count(1), due[wound]);
            x.hour(1);
        }
        TwoOnACable y = Check.wired("30:1:999");
        c.due("31 times 31 is more than 900", y.hour(-1), 31);
        c.due("TURNS at 31", y.count(1), 0);
        y.hour(1);
        c.due("SPIN is kept: TURNS at 30 again", y.count(1), 1);
    }

    private void strain() {
        doc.says(0, "STRAIN: what CABIN 0 weighs times its FLOOR, by 100 (rounded down).");
        c.due("90 by 100", Check.wired("19:1:100").count(3), 0);
        c.due("100 by 100", Check.wired("20:1:100").count(3), 1);
        c.due("190 by 100", Check.wired("38:1:100").count(3), 1);
        c.due("200 by 100", Check.wired("40:1:100").count(3), 2);
        TwoOnACable x = Check.wired("20:2:100");
        x.thing(0, 20, 1);
        // 10 * (15 * 4) by 100, not 30 * (5 * 4).
        c.due("of CABIN 0", x.count(3), 6);
        x.carry(0);
        c.due("of CABIN 0 with the THING", x.count(3), 6);
        x.thing(0, 10, 0);
        // 40 * (4 * 4) by 100 is 6.4.
        c.due("of CABIN 0 with two", x.count(3), 6);
        x.thing(0, 10, 0);
        // 50 * (3 * 4) by 100.
        c.due("of CABIN 0 with three", x.count(3), 6);
        x.thing(0, 10, 1);
        // 50 * (5 * 4) by 100: 20 * 20 / 70 is 5.
        c.due("of CABIN 0 with a longer ARM", x.count(3), 10);
    }

    private void sixThings() {
        doc.says(0, "THINGS (6 at most, numbered) are of KINDS");
        TwoOnACable x = Check.wired("20:2:100");
        doc.says(7, "A THING: its number.");
        for (int i = 0; i < 6; i++) {
            c.refused(x, "no THING " + i + " yet", () -> x.about(x.count(9), 0), UNKNOWN);
            c.due("THING " + i, x.thing(i % 5, 1 + i, i % 2), i);
            c.due("how many", x.count(9), i + 1);
        }
        for (int kind = 0; kind <= 4; kind++) {
            int told = kind;
            c.refused(x, "a seventh", () -> x.thing(told, 1, 0), FULL);
        }
        c.due("the sixth is as it was", x.about(5, 1), 6);
        c.refused(x, "no THING 6", () -> x.about(6, 0), UNKNOWN);
        x.image();
        TwoOnACable y = Check.wired("20:2:100");
        y.image();
        for (int i = 0; i < 6; i++) {
            y.thing(0, 1, 0);
        }
        c.refused(y, "full", () -> y.thing(0, 1, 0), FULL);
        y.restore();
        c.due("room again, as those that came are gone", y.thing(0, 1, 0), 0);
    }

    private void kindsAndWeights() {
        doc.says(0, "0 THING, 1 COOK, 2 GUEST, 3 LIVE, 4 HENS, each with a WEIGHT (1 to 20), in a CABIN.");
        for (int kind = 0; kind <= 4; kind++) {
            TwoOnACable x = Check.wired("20:2:100");
            int told = kind;
            c.due("WEIGHT 1", x.thing(kind, 1, 1), 0);
            c.due("WEIGHT 20", x.thing(kind, 20, 0), 1);
            c.due("KIND", x.about(0, 0), kind);
            c.due("WEIGHT 1 told", x.about(0, 1), 1);
            c.due("WEIGHT 20 told", x.about(1, 1), 20);
            c.due("CABIN 1 told", x.about(0, 2), 1);
            c.due("CABIN 0 told", x.about(1, 2), 0);
            for (int weight : new int[] {LEAST, -1, 0, 21, GREATEST}) {
                c.refused(x, "WEIGHT " + weight, () -> x.thing(told, weight, 0), OUTSIDE);
            }
        }
        TwoOnACable x = Check.wired("20:2:100");
        for (int kind : new int[] {LEAST, -1, 5, GREATEST}) {
            c.refused(x, "KIND " + kind, () -> x.thing(kind, 1, 0), OUTSIDE);
        }
    }

    private void kindsOfKinds() {
        doc.says(0, "All are THINGS; HENS are LIVE, too.");
        boolean[][] are = {{true, false, false, false, false}, {true, true, false, false, false},
            {true, false, true, false, false}, {true, false, false, true, false}, {true, false, false, true, true}};
        TwoOnACable x = Check.wired("20:2:100");
        for (int kind = 0; kind <= 4; kind++) {
            x.thing(kind, 1, 0);
            for (int as = 0; as <= 4; as++) {
                c.due("as(" + kind + ", " + as + ")", x.as(kind, as), are[kind][as] ? kind : NONE);
            }
        }
    }

    private void weights() {
        doc.says(0, "An empty CABIN weighs 10; a COOK weighs 2 more than his WEIGHT; LIVE ones 1 more for each 6 HOURS"
            + " that have gone since they came (rounded down); HENS 2 more (in all) for each such 6 HOURS.");
        TwoOnACable x = Check.wired("40:1:999");
        c.due("an empty one", x.cabin(1, 0), 10);
        for (int kind = 0; kind <= 4; kind++) {
            x.thing(kind, 20, 0);
        }
        for (int gone = 0; gone <= 25; gone++) {
            int sixes = gone / 6;
            int[] due = {20, 22, 20, 20 + sixes, 20 + 2 * sixes};
            for (int kind = 0; kind <= 4; kind++) {
                c.due("KIND " + kind + " after " + gone, x.about(kind, 3), due[kind]);
            }
            c.due("CABIN 0 after " + gone, x.cabin(0, 0), 112 + 3 * sixes);
            c.due("CABIN 1 stays empty", x.cabin(1, 0), 10);
            c.due("its WEIGHT is as it came", x.about(4, 1), 20);
            x.hour(0);
        }
        TwoOnACable least = Check.wired("40:1:999");
        least.thing(1, 1, 0);
        c.due("the least COOK", least.about(0, 3), 3);
    }

    private void hoursHere() {
        doc.says(8, "3 what it weighs, 4 how many HOURS it has been here.");
        TwoOnACable x = Check.wired("40:1:999");
        x.thing(3, 5, 0);
        c.due("it came now", x.about(0, 4), 0);
        Check.hours(x, 0, 5);
        x.thing(4, 5, 1);
        c.due("five HOURS", x.about(0, 4), 5);
        c.due("the other came now", x.about(1, 4), 0);
        Check.hours(x, 0, 5);
        c.due("HENS by their own HOURS: 5", x.about(1, 3), 5);
        x.carry(1);
        c.due("HOURS go on as it is carried", x.about(1, 4), 5);
        x.thing(3, 5, 1);
        x.hour(0);
        c.due("HENS by their own HOURS: 6", x.about(1, 3), 7);
        c.due("LIVE by 11", x.about(0, 3), 6);
        x.hour(0);
        c.due("LIVE by 12", x.about(0, 3), 7);
        Check.hours(x, 0, 3);
        c.due("LIVE that came at 10 by 5", x.about(2, 3), 5);
        x.hour(0);
        c.due("LIVE that came at 10 by 6", x.about(2, 3), 6);
        TwoOnACable broken = broken();
        c.due("it came to a BROKEN one", broken.thing(3, 4, 1), 2);
        c.due("no HOUR since", broken.about(2, 4), 0);
    }

    private void thingRefused() {
        doc.says(7, "UNKNOWN: cabin; OUTSIDE: kind, weight; STATE: no WIRE; FULL.");
        TwoOnACable none = new TwoOnACable();
        c.refused(none, "all at once", () -> none.thing(5, 21, 2), UNKNOWN);
        c.refused(none, "kind and no WIRE", () -> none.thing(-1, 1, 0), OUTSIDE);
        c.refused(none, "weight and no WIRE", () -> none.thing(0, 0, 1), OUTSIDE);
        c.refused(none, "no WIRE", () -> none.thing(0, 1, 0), STATE);
        TwoOnACable full = Check.wired("20:2:100");
        for (int i = 0; i < 6; i++) {
            full.thing(0, 1, 1);
        }
        c.refused(full, "cabin and FULL", () -> full.thing(0, 1, -1), UNKNOWN);
        c.refused(full, "cabin, kind and FULL", () -> full.thing(5, 1, 2), UNKNOWN);
        c.refused(full, "cabin, weight and FULL", () -> full.thing(0, 21, 2), UNKNOWN);
        c.refused(full, "kind and FULL", () -> full.thing(5, 1, 0), OUTSIDE);
        c.refused(full, "weight and FULL", () -> full.thing(0, 21, 0), OUTSIDE);
        c.refused(full, "FULL", () -> full.thing(0, 1, 0), FULL);
    }

    private void about() {
        doc.says(8, "Of a THING: what = 0 KIND, 1 WEIGHT, 2 its CABIN, 3 what it weighs,"
            + " 4 how many HOURS it has been here. UNKNOWN; OUTSIDE.");
        TwoOnACable x = Check.wired("20:2:100");
        c.refused(x, "none is there", () -> x.about(0, 0), UNKNOWN);
        x.thing(1, 4, 1);
        int[] due = {1, 4, 1, 6, 0};
        for (int what = 0; what <= 4; what++) {
            c.due("about(0, " + what + ")", x.about(0, what), due[what]);
        }
        for (int what : new int[] {LEAST, -1, 5, GREATEST}) {
            c.refused(x, "about(0, " + what + ")", () -> x.about(0, what), OUTSIDE);
            c.refused(x, "UNKNOWN ahead: " + what, () -> x.about(1, what), UNKNOWN);
        }
        for (int thing : new int[] {LEAST, -1, 1, 5, 6, GREATEST}) {
            c.refused(x, "about(" + thing + ", 0)", () -> x.about(thing, 0), UNKNOWN);
        }
    }

    private void as() {
        doc.says(9, "A THING taken as a KIND: its own number (not that of the KIND); NONE: it is none such"
            + " (the cast fails). UNKNOWN; OUTSIDE.");
        TwoOnACable x = Check.wired("20:2:100");
        c.refused(x, "none is there", () -> x.as(0, 0), UNKNOWN);
        x.thing(0, 1, 0);
        x.thing(4, 1, 0);
        c.due("its own number 1 of HENS as LIVE", x.as(1, 3), 1);
        c.due("its own number 0", x.as(0, 0), 0);
        c.refused(x, "a THING is no COOK", () -> x.as(0, 1), NONE);
        for (int kind : new int[] {LEAST, -1, 5, GREATEST}) {
            c.refused(x, "as(0, " + kind + ")", () -> x.as(0, kind), OUTSIDE);
            c.refused(x, "UNKNOWN ahead: " + kind, () -> x.as(2, kind), UNKNOWN);
        }
        for (int thing : new int[] {LEAST, -1, 2, 5, 6, GREATEST}) {
            c.refused(x, "as(" + thing + ", 0)", () -> x.as(thing, 0), UNKNOWN);
        }
        TwoOnACable broken = broken();
        c.due("of a BROKEN one", broken.as(1, 0), 1);
    }

    private void guests() {
        doc.says(0, "A GUEST is carried just while TURNS are 2 at most.");
        for (int turns = 1; turns <= 9; turns++) {
            TwoOnACable x = Check.wired("10:" + turns + ":999");
            x.thing(2, 5, 0);
            c.due("at " + turns, x.carry(0), turns <= 2 ? 1 : STATE);
            c.due("where he is at " + turns, x.about(0, 2), turns <= 2 ? 1 : 0);
        }
        TwoOnACable x = Check.wired("17:3:999");
        x.thing(2, 5, 1);
        x.thing(0, 5, 1);
        c.refused(x, "at 3", () -> x.carry(0), STATE);
        c.due("a THING goes at 3", x.carry(1), 0);
        x.hour(-1);
        // 867 by 324 is 2.67.
        c.due("TURNS are 2, rounded down", x.count(1), 2);
        c.due("he goes", x.carry(0), 0);
        c.due("and back", x.carry(0), 1);
        TwoOnACable still = Check.wired("10:1:999");
        still.hour(-1);
        still.thing(2, 5, 0);
        c.due("at 0", still.carry(0), 1);
    }

    private void carrying() {
        doc.says(0, "CARRYING a THING to the other CABIN takes no time; SPIN is kept.");
        TwoOnACable x = Check.wired("20:3:100");
        x.thing(4, 20, 0);
        x.hour(0);
        int place = x.count(6);
        c.due("across", x.carry(0), 1);
        c.due("no HOUR", x.count(7), 1);
        c.due("no PLACE", x.count(6), place);
        c.due("SPIN", x.count(2), 1200);
        c.due("LENGTH", x.count(0), 20);
        c.due("TURNS", x.count(1), 3);
        c.due("CABIN 0 is empty", x.cabin(0, 0), 10);
        c.due("CABIN 1 has it", x.cabin(1, 0), 30);
        c.due("back", x.carry(0), 0);
        TwoOnACable strained = Check.wired("10:9:100");
        strained.thing(0, 20, 1);
        strained.thing(0, 20, 1);
        // 10 * (8 * 81) by 100 is 64; 30 * (5 * 81) by 100 is 121.
        c.due("before", strained.count(3), 64);
        c.due("carried", strained.carry(0), 0);
        c.due("more than it BEARS", strained.count(3), 121);
        c.due("it BREAKS in an HOUR alone", strained.count(8), 0);
        c.due("carried back", strained.carry(0), 1);
        c.due("so it holds", strained.hour(0), 10);
    }

    private void carryRefused() {
        doc.says(10, "CARRYING: in which CABIN it is then. UNKNOWN; STATE: the WIRE is BROKEN, or a GUEST does not go.");
        TwoOnACable x = Check.wired("40:2:100");
        c.refused(x, "none is there", () -> x.carry(0), UNKNOWN);
        x.thing(2, 20, 1);
        for (int i = 1; i < 6; i++) {
            x.thing(4, 20, i % 2);
        }
        c.due("a GUEST at 2", x.carry(0), 0);
        for (int i = 0; i < 150 && x.count(8) == 0; i++) {
            x.hour(0);
        }
        c.due("it is BROKEN by HENS that grew", x.count(8), 1);
        c.due("TURNS are 2 still", x.count(1), 2);
        c.refused(x, "a GUEST in a BROKEN one", () -> x.carry(0), STATE);
        c.refused(x, "HENS in a BROKEN one", () -> x.carry(5), STATE);
        for (int thing : new int[] {LEAST, -1, 6, GREATEST}) {
            c.refused(x, "carry(" + thing + ") in a BROKEN one", () -> x.carry(thing), UNKNOWN);
        }
        TwoOnACable y = Check.wired("10:9:999");
        y.thing(2, 1, 0);
        for (int thing : new int[] {LEAST, -1, 1, 5, 6, GREATEST}) {
            c.refused(y, "carry(" + thing + ")", () -> y.carry(thing), UNKNOWN);
        }
    }
}
