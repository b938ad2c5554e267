/** Promises 6 to 10: cabin, thing, about, as, carry. */
final class CabinTest {
    private static final Check C = new Check();
    private static final int UNKNOWN = TwoOnACable.UNKNOWN, OUTSIDE = TwoOnACable.OUTSIDE,
        STATE = TwoOnACable.STATE, FULL = TwoOnACable.FULL, NONE = TwoOnACable.NONE;

    public static void main(String[] args) {
        cabin();
        cabinRefused();
        thing();
        thingRefused();
        about();
        as();
        carry();
        carryRefused();
        C.end("CabinTest");
    }

    private static void cabin() {
        TwoOnACable x = Check.wired("25:3:999");
        C.due("an empty one", x.cabin(0, 0), 10);
        C.due("half of 25 rounded down", x.cabin(0, 1), 12);
        C.due("the rest", x.cabin(1, 1), 13);
        C.due("FLOOR 0", x.cabin(0, 2), 108);
        C.due("FLOOR 1", x.cabin(1, 2), 117);
        C.due("none in it", x.cabin(0, 3), 0);
        x.thing(1, 18, 0);
        x.thing(0, 5, 1);
        x.thing(0, 5, 1);
        C.due("30 in CABIN 0", x.cabin(0, 0), 30);
        C.due("20 in CABIN 1", x.cabin(1, 0), 20);
        C.due("ARM 0 by what the other weighs", x.cabin(0, 1), 10);
        C.due("ARM 1", x.cabin(1, 1), 15);
        C.due("FLOOR 0 so", x.cabin(0, 2), 90);
        C.due("FLOOR 1 so", x.cabin(1, 2), 135);
        C.due("one in CABIN 0", x.cabin(0, 3), 1);
        C.due("two in CABIN 1", x.cabin(1, 3), 2);
        C.due("STRAIN", x.count(3), 27);
        x.hour(3);
        C.due("TURNS by what is kept", x.count(1), 1875 / 484);
        C.due("FLOOR at 22", x.cabin(0, 2), 22 * 20 / 50 * 9);
    }

    private static void cabinRefused() {
        TwoOnACable none = new TwoOnACable();
        C.refused(none, "no such cabin, no wire", () -> none.cabin(2, 9), UNKNOWN);
        C.refused(none, "no such what, no wire", () -> none.cabin(0, 4), OUTSIDE);
        C.refused(none, "no wire", () -> none.cabin(1, 3), STATE);
        TwoOnACable x = Check.wired("25:3:999");
        C.refused(x, "cabin -1", () -> x.cabin(-1, 0), UNKNOWN);
        C.refused(x, "cabin 2", () -> x.cabin(2, 0), UNKNOWN);
        C.refused(x, "cabin 2, what -1", () -> x.cabin(2, -1), UNKNOWN);
        C.refused(x, "what -1", () -> x.cabin(0, -1), OUTSIDE);
        C.refused(x, "what 4", () -> x.cabin(1, 4), OUTSIDE);
    }

    private static void thing() {
        TwoOnACable x = Check.wired("25:3:100");
        for (int i = 0; i < 6; i++) {
            C.due("thing " + i, x.thing(i % 5, i == 0 ? 1 : 20, i % 2), i);
        }
        C.due("six", x.count(9), 6);
        C.refused(x, "a seventh", () -> x.thing(0, 1, 0), FULL);
        TwoOnACable broken = Check.wired("10:9:100");
        broken.thing(0, 20, 0);
        broken.thing(0, 20, 1);
        C.due("it breaks", broken.hour(0), NONE);
        C.due("a THING comes to a BROKEN one", broken.thing(0, 1, 0), 2);
    }

    private static void thingRefused() {
        TwoOnACable none = new TwoOnACable();
        C.refused(none, "cabin first", () -> none.thing(5, 0, 2), UNKNOWN);
        C.refused(none, "kind then", () -> none.thing(5, 1, 0), OUTSIDE);
        C.refused(none, "no wire", () -> none.thing(4, 1, 0), STATE);
        TwoOnACable x = Check.wired("25:3:100");
        C.refused(x, "cabin -1", () -> x.thing(0, 1, -1), UNKNOWN);
        C.refused(x, "cabin 2", () -> x.thing(0, 1, 2), UNKNOWN);
        C.refused(x, "kind -1", () -> x.thing(-1, 1, 0), OUTSIDE);
        C.refused(x, "kind 5", () -> x.thing(5, 1, 0), OUTSIDE);
        C.refused(x, "weight 0", () -> x.thing(0, 0, 0), OUTSIDE);
        C.refused(x, "weight 21", () -> x.thing(0, 21, 0), OUTSIDE);
        for (int i = 0; i < 6; i++) {
            x.thing(0, 1, 0);
        }
        C.refused(x, "OUTSIDE ahead of FULL", () -> x.thing(0, 21, 0), OUTSIDE);
        C.refused(x, "UNKNOWN ahead of FULL", () -> x.thing(0, 1, 2), UNKNOWN);
    }

    private static void about() {
        TwoOnACable x = Check.wired("40:1:999");
        for (int kind = 0; kind <= 4; kind++) {
            x.thing(kind, 3 + kind, kind % 2);
        }
        Check.hours(x, 0, 5);
        x.thing(4, 9, 0);
        int[][] young = {{0, 3, 0, 3, 5}, {1, 4, 1, 6, 5}, {2, 5, 0, 5, 5}, {3, 6, 1, 6, 5}, {4, 7, 0, 7, 5},
            {4, 9, 0, 9, 0}};
        told(x, "after 5", young);
        x.hour(0);
        int[][] grown = {{0, 3, 0, 3, 6}, {1, 4, 1, 6, 6}, {2, 5, 0, 5, 6}, {3, 6, 1, 7, 6}, {4, 7, 0, 9, 6},
            {4, 9, 0, 9, 1}};
        told(x, "after 6", grown);
        Check.hours(x, 0, 5);
        C.due("LIVE after 11", x.about(3, 3), 7);
        C.due("HENS after 11", x.about(4, 3), 9);
        C.due("HENS that came at 5", x.about(5, 3), 11);
        x.hour(0);
        C.due("LIVE after 12", x.about(3, 3), 8);
        C.due("HENS after 12", x.about(4, 3), 11);
        C.due("CABIN 0 weighs so", x.cabin(0, 0), 10 + 3 + 5 + 11 + 11);
        C.refused(x, "thing -1", () -> x.about(-1, 0), UNKNOWN);
        C.refused(x, "thing 6", () -> x.about(6, 0), UNKNOWN);
        C.refused(x, "thing 6, what 5", () -> x.about(6, 5), UNKNOWN);
        C.refused(x, "what -1", () -> x.about(0, -1), OUTSIDE);
        C.refused(x, "what 5", () -> x.about(5, 5), OUTSIDE);
    }

    private static void told(TwoOnACable x, String when, int[][] rows) {
        for (int i = 0; i < rows.length; i++) {
            for (int what = 0; what < rows[i].length; what++) {
                C.due("about(" + i + ", " + what + ") " + when, x.about(i, what), rows[i][what]);
            }
        }
    }

    private static void as() {
        TwoOnACable x = Check.wired("40:1:999");
        int[][] is = {{1, 0, 0, 0, 0}, {1, 1, 0, 0, 0}, {1, 0, 1, 0, 0}, {1, 0, 0, 1, 0}, {1, 0, 0, 1, 1}};
        for (int kind = 4; kind >= 0; kind--) {
            x.thing(kind, 1, 0);
        }
        for (int kind = 0; kind <= 4; kind++) {
            for (int asKind = 0; asKind <= 4; asKind++) {
                int thing = 4 - kind;
                C.due("kind " + kind + " as " + asKind, x.as(thing, asKind), is[kind][asKind] == 1 ? thing : NONE);
            }
        }
        C.refused(x, "thing 5", () -> x.as(5, 0), UNKNOWN);
        C.refused(x, "thing -1, kind 5", () -> x.as(-1, 5), UNKNOWN);
        C.refused(x, "kind -1", () -> x.as(0, -1), OUTSIDE);
        C.refused(x, "kind 5", () -> x.as(4, 5), OUTSIDE);
        C.refused(x, "kind 1 fails", () -> x.as(0, 1), NONE);
    }

    private static void carry() {
        TwoOnACable x = Check.wired("20:2:999");
        x.thing(2, 7, 0);
        x.thing(1, 7, 1);
        C.due("a GUEST at 2 TURNS", x.carry(0), 1);
        C.due("in CABIN 1", x.about(0, 2), 1);
        C.due("CABIN 0 is empty", x.cabin(0, 0), 10);
        C.due("both in CABIN 1", x.cabin(1, 0), 26);
        C.due("SPIN is kept", x.count(2), 800);
        C.due("no time", x.count(7), 0);
        C.due("back", x.carry(0), 0);
        C.due("the COOK", x.carry(1), 0);
        C.due("two in CABIN 0", x.cabin(0, 3), 2);
    }

    private static void carryRefused() {
        TwoOnACable none = new TwoOnACable();
        C.refused(none, "nothing to carry", () -> none.carry(0), UNKNOWN);
        TwoOnACable x = Check.wired("20:3:100");
        x.thing(2, 20, 0);
        x.thing(0, 20, 1);
        C.refused(x, "a GUEST at 3 TURNS", () -> x.carry(0), STATE);
        C.due("a THING at 3 TURNS", x.carry(1), 0);
        C.due("and back", x.carry(1), 1);
        C.refused(x, "no such", () -> x.carry(2), UNKNOWN);
        C.refused(x, "thing -1", () -> x.carry(-1), UNKNOWN);
        while (x.count(8) == 0) {
            x.hour(2);
        }
        C.refused(x, "a BROKEN one", () -> x.carry(1), STATE);
        C.refused(x, "no such in a BROKEN one", () -> x.carry(2), UNKNOWN);
    }
}
