/** Promises 1 to 5: a new object, letters, blank, fault, wire. */
final class WireTest {
    private static final Check C = new Check();

    public static void main(String[] args) {
        newObject();
        letters();
        blank();
        fault();
        wire();
        anotherWire();
        C.end("WireTest");
    }

    private static void newObject() {
        TwoOnACable x = new TwoOnACable();
        for (int what = 0; what <= 12; what++) {
            C.due("a new object's count(" + what + ")", x.count(what), 0);
        }
        C.due("a new object's cabin(0, 0)", x.cabin(0, 0), TwoOnACable.STATE);
        C.due("a new object's thing(0, 1, 0)", x.thing(0, 1, 0), TwoOnACable.STATE);
        C.due("a new object's about(0, 0)", x.about(0, 0), TwoOnACable.UNKNOWN);
        C.due("a new object's hour(0)", x.hour(0), TwoOnACable.STATE);
        C.due("a new object's image()", x.image(), TwoOnACable.STATE);
        C.due("a new object's restore()", x.restore(), TwoOnACable.STATE);
        C.due("a new object's forget()", x.forget(), 0);
        C.due("a new object's fits(0)", x.fits(0), 14400);
        C.due("a new object's blank()", x.blank(), 0);
        C.due("a new object's fault()", x.fault(), 0);
    }

    private static void letters() {
        TwoOnACable x = new TwoOnACable();
        C.due("letters of nothing", x.letters(0), 0);
        C.due("two letters", x.letters(Check.bytes("ab")), 2);
        C.due("eight more", x.letters(Check.bytes("cdefghij")), 10);
        C.refused(x, "three above 12", () -> x.letters(Check.bytes("klm")), TwoOnACable.FULL);
        C.due("up to 12", x.letters(Check.bytes("kl")), 12);
        C.due("nothing behind 12", x.letters(0), 12);
        C.refused(x, "a 13th", () -> x.letters(Check.bytes("m")), TwoOnACable.FULL);
        C.refused(x, "127, OUTSIDE ahead of FULL", () -> x.letters(127), TwoOnACable.OUTSIDE);
        C.due("12 letters", x.blank(), 12);
        C.refused(x, "127 last", () -> x.letters(127L << 56), TwoOnACable.OUTSIDE);
        C.refused(x, "128", () -> x.letters(128), TwoOnACable.OUTSIDE);
        C.refused(x, "255 everywhere", () -> x.letters(-1), TwoOnACable.OUTSIDE);
        C.refused(x, "the highest byte 128", () -> x.letters(Long.MIN_VALUE), TwoOnACable.OUTSIDE);
        C.refused(x, "one behind a 0", () -> x.letters(0x410041L), TwoOnACable.OUTSIDE);
        C.refused(x, "a 0 first", () -> x.letters(0x4100L), TwoOnACable.OUTSIDE);
        C.refused(x, "the eighth behind 0s", () -> x.letters((1L << 56) | 1), TwoOnACable.OUTSIDE);
        C.due("1 and 126", x.letters(0x7e01), 2);
    }

    private static void blank() {
        TwoOnACable x = new TwoOnACable();
        Check.write(x, "20:2:900");
        C.due("blank of eight", x.blank(), 8);
        C.due("blank again", x.blank(), 0);
        C.due("no letters then", x.count(10), 0);
        C.due("no wire then", x.wire(), TwoOnACable.STATE);
    }

    private static void fault() {
        String[] texts = {"", "1", "0", "5", ":", "9", "10", "19", "1a", "30", "40", "41", "49", "4:",
            "20:", "200", "20:1", "20:9", "20:0", "20:a", "20:3:", "20:33", "20:3:1", "20:3:9", "20:3:0",
            "20:3:10", "20:3:1:", "20:3:100", "20:3:10o", "20:3:999o", "20:3:999O", "20:3:999x",
            "20:3:9990", "20:3:999oo", "20:3:999ooo", "x0:3:999o", "20;3:999", "20:3;999"};
        int[] due = {0, 1, 0, 0, 0, 0, 2, 2, 1, 2, 2, 1, 1, 1,
            3, 2, 4, 4, 3, 3, 5, 4, 6, 6, 5,
            7, 6, 8, 7, 9, 8, 8,
            8, 9, 9, 0, 2, 4};
        for (int i = 0; i < texts.length; i++) {
            TwoOnACable x = new TwoOnACable();
            Check.write(x, texts[i]);
            C.due("fault() of " + texts[i], x.fault(), due[i]);
            C.due("fault() leaves " + texts[i], x.count(10), texts[i].length());
        }
    }

    private static void wire() {
        String[] wires = {"10:1:100", "40:9:999o", "39:9:999", "20:2:900", "10:9:500o"};
        int[] spins = {100, 14400, 13689, 800, 900};
        int[] bears = {100, 999, 999, 900, 500};
        for (int i = 0; i < wires.length; i++) {
            TwoOnACable x = new TwoOnACable();
            Check.write(x, wires[i]);
            C.due("wire() of " + wires[i], x.wire(), spins[i]);
            C.due("LENGTH of " + wires[i], x.count(0), Integer.parseInt(wires[i].substring(0, 2)));
            C.due("TURNS of " + wires[i], x.count(1), wires[i].charAt(3) - '0');
            C.due("SPIN of " + wires[i], x.count(2), spins[i]);
            C.due("BEARS of " + wires[i], x.count(4), bears[i]);
            C.due("OLD of " + wires[i], x.count(5), wires[i].endsWith("o") ? 1 : 0);
            C.due("THE PAGE behind " + wires[i], x.count(10), 0);
            C.due("reads behind " + wires[i], x.count(11), 1);
        }
        String[] none = {"", "20:2:90", "41:2:900", "09:2:900", "20:0:900", "20:2:099", "20:2:900x",
            "20:2:900oo", "20:2:9000", " 20:2:900"};
        for (String text : none) {
            TwoOnACable x = new TwoOnACable();
            Check.write(x, text);
            C.refused(x, "wire() of " + text, x::wire, TwoOnACable.STATE);
            C.due("the letters of " + text + " stay", x.count(10), text.length());
        }
    }

    private static void anotherWire() {
        TwoOnACable x = Check.wired("30:2:999o");
        x.thing(4, 3, 1);
        Check.hours(x, 0, 7);
        x.weighed(20, 3);
        x.image();
        Check.write(x, "20:5:100");
        C.due("another wire", x.wire(), 2000);
        C.due("its THINGS are gone", x.count(9), 0);
        C.due("its HOURS are gone", x.count(7), 0);
        C.due("its PLACE is 0", x.count(6), 0);
        C.due("it is not OLD", x.count(5), 0);
        C.due("nothing is WEIGHED", x.count(12), 0);
        C.due("the first THING is gone", x.about(0, 0), TwoOnACable.UNKNOWN);
        C.due("CABIN 1 is empty", x.cabin(1, 0), 10);
        C.due("read twice", x.count(11), 2);
        x.thing(0, 20, 0);
        C.due("it breaks by its weight", breakIt(x), TwoOnACable.NONE);
        Check.write(x, "20:5:100");
        C.due("a third", x.wire(), 2000);
        C.due("it is not BROKEN", x.count(8), 0);
    }

    private static int breakIt(TwoOnACable x) {
        int last = 0;
        for (int i = 0; i < 3 && last >= 0; i++) {
            last = x.hour(3);
        }
        return last;
    }
}
