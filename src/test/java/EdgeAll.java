/** Boundary cases of the IMAGE, of count() and digest(), of refusals, and of 512 calls: promises 20 to 23. */
final class EdgeAll {
    private static final int OUTSIDE = TwoOnACable.OUTSIDE, STATE = TwoOnACable.STATE, NONE = TwoOnACable.NONE,
        UNKNOWN = TwoOnACable.UNKNOWN, FULL = TwoOnACable.FULL;
    private static final int LEAST = Integer.MIN_VALUE, GREATEST = Integer.MAX_VALUE;

    private final Check c;
    private final Document doc;

    EdgeAll(Check c, Document doc) {
        this.c = c;
        this.doc = doc;
    }

    void run() {
        imageKeeps();
        imageOfNothing();
        imageLatest();
        imageRefused();
        restoreRefused();
        counts();
        countRefused();
        digestEmpty();
        digestFull();
        digestInOrder();
        refusals();
        calls512();
    }

    private static TwoOnACable broken() {
        TwoOnACable x = Check.wired("10:9:100");
        x.thing(0, 20, 0);
        x.thing(0, 20, 1);
        x.hour(0);
        return x;
    }

    private void imageKeeps() {
        doc.says(0, "An IMAGE keeps LENGTH, PLACE, HOURS, whether it is BROKEN, how many THINGS there are"
            + " (those that come since are gone by restore()), where they are, since when.");
        TwoOnACable x = Check.wired("30:4:120");
        x.hour(0);
        x.thing(3, 5, 0);
        x.thing(4, 6, 1);
        Check.hours(x, 0, 4);
        long before = x.digest();
        x.image();
        x.carry(0);
        x.carry(1);
        for (int i = 2; i < 6; i++) {
            x.thing(1, 20, i % 2);
        }
        for (int i = 0; i < 20 && x.count(8) == 0; i++) {
            x.hour(2);
        }
        c.due("it is BROKEN since", x.count(8), 1);
        c.due("HOURS as kept", x.restore(), 5);
        c.due("LENGTH", x.count(0), 30);
        c.due("PLACE", x.count(6), 200);
        c.due("not BROKEN", x.count(8), 0);
        c.due("two THINGS", x.count(9), 2);
        c.refused(x, "THING 2 is gone", () -> x.about(2, 0), UNKNOWN);
        c.due("THING 0 where it was", x.about(0, 2), 0);
        c.due("THING 1 where it was", x.about(1, 2), 1);
        c.due("since when", x.about(1, 4), 4);
        c.due("all as before", x.digest(), before);
        c.due("the next number is 2", x.thing(0, 1, 0), 2);
        c.due("it goes on", x.hour(0), 30);
        c.due("PLACE goes on", x.count(6), 240);
    }

    private void imageOfNothing() {
        doc.says(20, "An IMAGE is kept (one; the latest): how many HOURS have gone. STATE: no WIRE.");
        TwoOnACable x = Check.wired("30:4:999");
        c.due("no HOUR, no THING", x.image(), 0);
        for (int i = 0; i < 6; i++) {
            x.thing(0, 1, 0);
        }
        x.hour(3);
        c.due("back to nothing", x.restore(), 0);
        c.due("no THING", x.count(9), 0);
        c.refused(x, "no THING 0", () -> x.about(0, 0), UNKNOWN);
        c.due("an empty CABIN", x.cabin(0, 0), 10);
        c.due("PLACE 0", x.count(6), 0);
        TwoOnACable full = Check.wired("30:4:999");
        for (int i = 0; i < 6; i++) {
            full.thing(4, 1, i % 2);
        }
        full.image();
        full.carry(5);
        full.restore();
        c.due("six THINGS", full.count(9), 6);
        c.due("the sixth where it was", full.about(5, 2), 1);
        c.refused(full, "FULL still", () -> full.thing(0, 1, 0), FULL);
        TwoOnACable broken = broken();
        c.due("of a BROKEN one", broken.image(), 1);
        broken.thing(0, 1, 0);
        c.due("it goes back to that", broken.restore(), 1);
        c.due("BROKEN", broken.count(8), 1);
        c.due("two THINGS", broken.count(9), 2);
    }

    private void imageLatest() {
        TwoOnACable x = Check.wired("30:4:999");
        x.thing(0, 5, 0);
        x.image();
        x.hour(0);
        x.carry(0);
        x.thing(0, 6, 0);
        c.due("the latest", x.image(), 1);
        x.hour(0);
        x.carry(0);
        c.due("of two", x.restore(), 1);
        c.due("its THINGS", x.count(9), 2);
        c.due("its CABIN", x.about(0, 2), 1);
        x.hour(0);
        c.due("it is kept still", x.restore(), 1);
        // An IMAGE of more THINGS, then one of fewer.
        TwoOnACable y = Check.wired("30:4:999");
        y.image();
        y.thing(0, 5, 1);
        y.restore();
        c.due("one of fewer", y.image(), 0);
        y.thing(2, 7, 0);
        y.restore();
        c.due("no THING", y.count(9), 0);
    }

    private void imageRefused() {
        doc.says(20, "STATE: no WIRE.");
        TwoOnACable none = new TwoOnACable();
        c.refused(none, "image()", none::image, STATE);
        Check.write(none, "20:2:90");
        c.refused(none, "a PAGE that is no WIRE", none::image, STATE);
        none.letters('0');
        c.refused(none, "a PAGE that is not read", none::image, STATE);
        none.wire();
        c.due("a WIRE", none.image(), 0);
    }

    private void restoreRefused() {
        doc.says(21, "It goes on from the IMAGE: how many HOURS have gone (as it was kept). STATE: none was kept,"
            + " or a WIRE was read since (of the same text, too).");
        TwoOnACable none = new TwoOnACable();
        c.refused(none, "no WIRE", none::restore, STATE);
        TwoOnACable x = Check.wired("20:2:900");
        c.refused(x, "none was kept", x::restore, STATE);
        x.image();
        x.hour(0);
        Check.write(x, "20:2:90x");
        c.refused(x, "a text that is none", x::wire, STATE);
        c.due("it is kept still", x.restore(), 0);
        x.blank();
        Check.write(x, "20:2:900");
        c.due("not read yet", x.restore(), 0);
        x.wire();
        c.refused(x, "a WIRE of the same text was read", x::restore, STATE);
        c.due("another is kept", x.image(), 0);
        c.due("and gone back to", x.restore(), 0);
        Check.write(x, "30:2:900o");
        x.wire();
        c.refused(x, "a WIRE of another text was read", x::restore, STATE);
    }

    private void counts() {
        doc.says(22, "How many: 0 LENGTH (0: no WIRE), 1 TURNS, 2 SPIN, 3 STRAIN, 4 what it BEARS,"
            + " 5 whether it is OLD (1, 0), 6 PLACE, 7 HOURS, 8 whether it is BROKEN, 9 THINGS,"
            + " 10 letters of THE PAGE, 11 how often a WIRE was read, 12 what was WEIGHED. OUTSIDE.");
        TwoOnACable x = Check.wired("40:9:999o");
        int[] least = {40, 9, 14400, 162, 999, 1, 0, 0, 0, 0, 0, 1, 0};
        counted(x, "a new one", least);
        for (int i = 0; i < 6; i++) {
            x.thing(0, 1, 0);
            x.weighed(40, 9);
        }
        Check.write(x, "123456789012");
        x.hour(0);
        // ARM 40 * 10 / 26 is 15; 16 * (15 * 81) by 100.
        int[] full = {40, 9, 14400, 194, 999, 1, 90, 1, 0, 6, 12, 1, 6};
        counted(x, "a full one", full);
        x.blank();
        Check.write(x, "10:1:100");
        x.wire();
        counted(x, "the second", new int[] {10, 1, 100, 0, 100, 0, 0, 0, 0, 0, 0, 2, 0});
        counted(broken(), "a BROKEN one", new int[] {10, 9, 900, 121, 100, 0, 90, 1, 1, 2, 0, 1, 0});
        x.image();
        x.hour(0);
        x.restore();
        c.due("restore() reads no WIRE", x.count(11), 2);
    }

    private void counted(TwoOnACable x, String which, int[] due) {
        for (int what = 0; what < due.length; what++) {
            c.due("count(" + what + ") of " + which, x.count(what), due[what]);
        }
    }

    private void countRefused() {
        for (TwoOnACable x : new TwoOnACable[] {new TwoOnACable(), broken(), Check.wired("10:1:100")}) {
            for (int what : new int[] {LEAST, -1, 13, GREATEST}) {
                c.refused(x, "count(" + what + ")", () -> x.count(what), OUTSIDE);
            }
        }
    }

    private static long digestOf(long... numbers) {
        long h = 683;
        for (long number : numbers) {
            h = 31 * h + number;
        }
        return h;
    }

    private void digestEmpty() {
        doc.says(23, "h is 683, then for each of these numbers, in order, 31 times h, and it (as longs, wrapping)");
        TwoOnACable none = new TwoOnACable();
        c.due("no WIRE", none.digest(), digestOf(14400, 1, 14400, 0, 0, 0, 0, 0, 0, 0, 0, 0, 0, 0, 0, 0));
        none.letters(0x7e01);
        c.due("letters 1 and 126", none.digest(),
            digestOf(14400, 1, 14400, 1, 126, 0, 0, 0, 0, 0, 0, 0, 0, 0, 0, 2, 0, 0));
        TwoOnACable x = Check.wired("10:1:100");
        // A FLOOR of 100 is not had; nothing to carry; STRAIN 0.
        c.due("a WIRE alone", x.digest(), digestOf(10, 5, 5, 0, 10, 5, 5, 0, 0, 0, NONE, NONE, 1, 1,
            14400, 1, 14400, 10, 1, 100, 0, 100, 0, 0, 0, 0, 0, 0, 1, 0));
    }

    private void digestFull() {
        TwoOnACable x = Check.wired("10:9:100");
        for (int i = 0; i < 6; i++) {
            x.thing(0, 20, i % 2);
            x.weighed(40, 10);
        }
        x.hour(0);
        Check.write(x, "~~~~~~~~~~~~");
        // 70 * (5 * 81) by 100 is 283: BROKEN, so nothing of even(), soonest(), lasts().
        long[] due = {70, 5, 405, 3, 70, 5, 405, 3,
            0, 20, 0, 20, 1, 0, 20, 1, 20, 1, 0, 20, 0, 20, 1, 0, 20, 1, 20, 1, 0, 20, 0, 20, 1, 0, 20, 1, 20, 1,
            0, NONE, NONE,
            126, 126, 126, 126, 126, 126, 126, 126, 126, 126, 126, 126,
            10, 9, 900, 283, 100, 0, 90, 1, 1, 6, 12, 1, 6};
        c.due("all full, and BROKEN", x.digest(), digestOf(due));
        c.due("it only tells", x.digest(), digestOf(due));
    }

    private void digestInOrder() {
        doc.says(23, "with a WIRE of each CABIN what cabin() tells for 0 to 3; of each THING what about() tells for 0 to 4;"
            + " with a WIRE that is not BROKEN what even() tells for 0 and 1, what soonest() tells of a FLOOR of 100"
            + " for 0 and 1, what lasts() tells of 2 HOURS for 0 and 1; what fits() tells for 0 to 2;"
            + " letters of THE PAGE, each by its code; what count() tells for 0 to 12.");
        String page = "20:3:90x~1";
        for (String wire : new String[] {"", "20:4:100o", "25:5:300", "10:9:100", "39:3:999"}) {
            TwoOnACable x = wire.isEmpty() ? new TwoOnACable() : Check.wired(wire);
            c.due("no THINGS, " + wire, x.digest(), called(x, ""));
            for (int i = 0; i < 6; i++) {
                x.thing(i % 5, 20 - 3 * i, i / 3);
                x.weighed(20 + i, x.count(2) / (20 + i) / (20 + i));
                c.due(i + 1 + " THINGS, " + wire, x.digest(), called(x, ""));
            }
            Check.write(x, page);
            Check.hours(x, 0, 7);
            c.due("seven HOURS later, " + wire, x.digest(), called(x, page));
            c.due("whether it is BROKEN, " + wire, x.count(8), wire.startsWith("10") ? 1 : 0);
        }
    }

    private static long called(TwoOnACable x, String page) {
        java.util.List<Long> all = new java.util.ArrayList<>();
        for (int i = 0; x.count(0) > 0 && i < 8; i++) {
            all.add((long) x.cabin(i / 4, i % 4));
        }
        for (int i = 0; i < 5 * x.count(9); i++) {
            all.add((long) x.about(i / 5, i % 5));
        }
        if (x.count(0) > 0 && x.count(8) == 0) {
            all.addAll(java.util.List.of((long) x.even(0), (long) x.even(1), (long) x.soonest(100, 0),
                (long) x.soonest(100, 1), x.lasts(2, 0), x.lasts(2, 1)));
        }
        for (int what = 0; what <= 2; what++) {
            all.add((long) x.fits(what));
        }
        page.chars().forEach(letter -> all.add((long) letter));
        for (int what = 0; what <= 12; what++) {
            all.add((long) x.count(what));
        }
        return digestOf(all.stream().mapToLong(number -> number).toArray());
    }

    private void refusals() {
        doc.says(0, "Refusals, of several the first as told by each call: UNKNOWN (a number names nothing),"
            + " OUTSIDE (it is not as told), STATE (as told), FULL; they change nothing.");
        TwoOnACable none = new TwoOnACable();
        c.refused(none, "UNKNOWN, OUTSIDE, STATE", () -> none.cabin(2, 4), UNKNOWN);
        c.refused(none, "UNKNOWN, OUTSIDE, STATE", () -> none.thing(5, 0, 2), UNKNOWN);
        c.refused(none, "UNKNOWN, OUTSIDE", () -> none.about(0, 5), UNKNOWN);
        c.refused(none, "UNKNOWN, OUTSIDE", () -> none.as(0, 5), UNKNOWN);
        c.refused(none, "OUTSIDE, STATE", () -> none.cabin(0, 4), OUTSIDE);
        c.refused(none, "OUTSIDE, STATE", () -> none.hour(4), OUTSIDE);
        TwoOnACable x = Check.wired("10:3:999");
        x.thing(2, 5, 0);
        x.image();
        x.hour(0);
        c.due("a GUEST stays", x.carry(0), STATE);
        c.due("LENGTH stays", x.hour(1), STATE);
        c.due("no HOUR went by", x.count(7), 1);
        c.due("by no refusal the IMAGE is gone", x.restore(), 0);
    }

    private void calls512() {
        doc.says(0, "An object is used for at most 512 calls after it has been made; what later calls answer is free.");
        TwoOnACable x = new TwoOnACable();
        x.letters(Check.bytes("40:1:999"));
        x.wire();
        x.thing(4, 20, 1);
        x.thing(3, 20, 1);
        for (int call = 5; call <= 509; call++) {
            x.hour(0);
        }
        // 505 HOURS: 84 sixes.
        c.due("the 510th: HENS weigh", x.about(0, 3), 20 + 168);
        c.due("the 511th: CABIN 1 weighs", x.cabin(1, 0), 10 + 188 + 104);
        c.due("the 512th: PLACE", x.count(6), 505 * 10 % 360);
        // What they answer is free, but none may throw.
        for (int call = 513; call <= 5000; call++) {
            x.hour(call % 7 - 3);
            x.digest();
        }
    }
}
