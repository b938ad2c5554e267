/** Boundary cases of the WIRE's text, and of promises 1 to 5. */
final class EdgeWire {
    private static final int OUTSIDE = TwoOnACable.OUTSIDE, STATE = TwoOnACable.STATE, FULL = TwoOnACable.FULL,
        UNKNOWN = TwoOnACable.UNKNOWN;
    /** By place: what a WIRE has there behind "10:1:100o". */
    private static final String[] LETTERS = {"1234", "0123456789", ":", "123456789", ":", "123456789",
        "0123456789", "0123456789", "o", "", "", ""};

    private final Check c;
    private final Document doc;

    EdgeWire(Check c, Document doc) {
        this.c = c;
        this.doc = doc;
    }

    void run() {
        wireText();
        newObject();
        lettersOfBytes();
        lettersRefused();
        blank();
        faultByPlaces();
        faultBehindOthers();
        wire();
        anotherWire();
        noWire();
    }

    private void reads(String text, int spin) {
        TwoOnACable x = new TwoOnACable();
        Check.write(x, text);
        c.due("fault() of " + text, x.fault(), text.length());
        c.due("wire() of " + text, x.wire(), spin);
    }

    private void isNone(String text, int fault) {
        TwoOnACable x = new TwoOnACable();
        Check.write(x, text);
        c.due("fault() of " + text, x.fault(), fault);
        c.refused(x, "wire() of " + text, x::wire, STATE);
    }

    private void wireText() {
        doc.says(0, "A WIRE is a text: its LENGTH (two digits, 10 to 40)");
        isNone("09:1:100", 0);
        reads("10:1:100", 100);
        reads("39:1:100", 1521);
        reads("40:1:100", 1600);
        isNone("41:1:100", 1);
        isNone("50:1:100", 0);
        isNone("9:1:100", 0);
        isNone("1:1:100", 1);
        isNone("100:1:100", 2);
        doc.says(0, "':' and how far it TURNS in an hour (one digit, 1 to 9)");
        isNone("10:0:100", 3);
        reads("10:1:100", 100);
        reads("10:9:100", 900);
        isNone("10:10:100", 4);
        isNone("10::100", 3);
        isNone("10;1:100", 2);
        doc.says(0, "':' and what it BEARS (three digits, 100 to 999)");
        isNone("10:1:099", 5);
        bears("10:1:100", 100);
        bears("10:1:999", 999);
        isNone("10:1:99", 7);
        isNone("10:1:1000", 8);
        isNone("10:1;100", 4);
        doc.says(0, "then perhaps 'o' (OLD)");
        isOld("10:1:100", 0);
        isOld("10:1:100o", 1);
        isNone("10:1:100O", 8);
        isNone("10:1:100n", 8);
        isNone("10:1:100p", 8);
        isNone("10:1:100oo", 9);
        isNone("10:1:10o", 7);
    }

    private void bears(String text, int due) {
        c.due("what " + text + " BEARS", Check.wired(text).count(4), due);
    }

    private void isOld(String text, int due) {
        c.due("whether " + text + " is OLD", Check.wired(text).count(5), due);
    }

    private void newObject() {
        doc.says(1, "No WIRE.");
        TwoOnACable x = new TwoOnACable();
        for (int what = 0; what <= 12; what++) {
            c.due("count(" + what + ") at first", x.count(what), 0);
        }
        c.due("fits(0) at first", x.fits(0), 14400);
        c.due("forget() at first", x.forget(), 0);
        c.due("the page is no WIRE at first", x.wire(), STATE);
    }

    private void noWire() {
        doc.says(0, "At first there is no WIRE.");
        TwoOnACable x = new TwoOnACable();
        c.refused(x, "cabin(0, 0)", () -> x.cabin(0, 0), STATE);
        c.refused(x, "thing(0, 1, 0)", () -> x.thing(0, 1, 0), STATE);
        c.refused(x, "about(0, 0)", () -> x.about(0, 0), UNKNOWN);
        c.refused(x, "as(0, 0)", () -> x.as(0, 0), UNKNOWN);
        c.refused(x, "carry(0)", () -> x.carry(0), UNKNOWN);
        c.refused(x, "hour(0)", () -> x.hour(0), STATE);
        c.refused(x, "even(0)", () -> x.even(0), STATE);
        c.refused(x, "soonest(1, 0)", () -> x.soonest(1, 0), STATE);
        c.refused(x, "caught(1)", () -> x.caught(1), STATE);
        c.refused(x, "weighed(10, 0)", () -> x.weighed(10, 0), STATE);
        c.refused(x, "lasts(1, 0)", () -> x.lasts(1, 0), STATE);
        c.refused(x, "whirls(1, 0, 0)", () -> x.whirls(1, 0, 0), STATE);
        c.refused(x, "image()", x::image, STATE);
        c.refused(x, "restore()", x::restore, STATE);
    }

    private void lettersOfBytes() {
        doc.says(2, "Letters come behind THE PAGE, up to eight, told by their codes in the bytes of w,"
            + " the lowest byte first, until a byte that is 0: how many THE PAGE has.");
        TwoOnACable x = new TwoOnACable();
        c.due("none on an empty PAGE", x.letters(0), 0);
        c.due("eight", x.letters(Check.bytes("20:3:150")), 8);
        c.due("none behind eight", x.letters(0), 8);
        c.due("one behind eight", x.letters('o'), 9);
        c.due("they stand as they came", x.wire(), 1200);
        c.due("the one behind eight, too", x.count(5), 1);
        for (int many = 1; many <= 8; many++) {
            c.due(many + " letters", new TwoOnACable().letters(Check.bytes("~~~~~~~~".substring(8 - many))), many);
        }
    }

    private void lettersRefused() {
        doc.says(2, "OUTSIDE: a byte above 126, or one behind a 0 that is not 0; FULL: above 12.");
        for (int i = 0; i < 8; i++) {
            long head = Check.bytes("aaaaaaaa".substring(8 - i));
            int shift = 8 * i;
            c.due("126 at " + i, new TwoOnACable().letters(head | 126L << shift), i + 1);
            c.due("1 at " + i, new TwoOnACable().letters(head | 1L << shift), i + 1);
            for (long code : new long[] {127, 128, 255}) {
                TwoOnACable x = new TwoOnACable();
                c.refused(x, code + " at " + i, () -> x.letters(head | code << shift), OUTSIDE);
                c.due("nothing came", x.count(10), 0);
            }
            for (int j = i + 1; j < 8; j++) {
                TwoOnACable x = new TwoOnACable();
                long behind = head | 1L << 8 * j;
                c.refused(x, "0 at " + i + ", 1 at " + j, () -> x.letters(behind), OUTSIDE);
            }
        }
        TwoOnACable full = new TwoOnACable();
        full.letters(Check.bytes("12345678"));
        c.refused(full, "five behind eight", () -> full.letters(Check.bytes("12345")), FULL);
        c.due("four behind eight", full.letters(Check.bytes("1234")), 12);
        c.due("none behind twelve", full.letters(0), 12);
        c.refused(full, "one behind twelve", () -> full.letters('1'), FULL);
        c.refused(full, "127 behind twelve", () -> full.letters(127), OUTSIDE);
        TwoOnACable eleven = new TwoOnACable();
        Check.write(eleven, "12345678901");
        c.refused(eleven, "two behind eleven", () -> eleven.letters(Check.bytes("12")), FULL);
        c.due("one behind eleven", eleven.letters('1'), 12);
    }

    private void blank() {
        doc.says(3, "THE PAGE is empty: how many letters it had.");
        TwoOnACable x = new TwoOnACable();
        c.due("an empty one", x.blank(), 0);
        x.letters('a');
        c.due("of one", x.blank(), 1);
        Check.write(x, "123456789012");
        c.due("a full one", x.blank(), 12);
        c.due("it is empty", x.count(10), 0);
        c.due("there is room for eight", x.letters(Check.bytes("12345678")), 8);
    }

    private void faultByPlaces() {
        doc.says(4, "The place (from 0) of the first letter of THE PAGE that no WIRE has there, behind those ahead of it");
        String wire = "10:1:100oooo";
        for (int place = 0; place <= 9; place++) {
            for (char letter = 1; letter <= 126; letter++) {
                TwoOnACable x = new TwoOnACable();
                Check.write(x, wire.substring(0, place) + letter);
                boolean fits = LETTERS[place].indexOf(letter) >= 0;
                c.due((int) letter + " at " + place, x.fault(), fits ? place + 1 : place);
            }
        }
        TwoOnACable two = new TwoOnACable();
        Check.write(two, "1x:0");
        c.due("the first of two", two.fault(), 1);
    }

    private void faultBehindOthers() {
        doc.says(4, "how many letters it has, if there is none.");
        for (char first = '1'; first <= '4'; first++) {
            for (char second = '0'; second <= '9'; second++) {
                TwoOnACable x = new TwoOnACable();
                Check.write(x, "" + first + second);
                c.due("fault() of " + first + second, x.fault(), first == '4' && second > '0' ? 1 : 2);
            }
        }
        String wire = "40:9:999o";
        for (int many = 0; many <= wire.length(); many++) {
            TwoOnACable x = new TwoOnACable();
            Check.write(x, wire.substring(0, many));
            c.due("fault() of " + many, x.fault(), many);
        }
        TwoOnACable full = new TwoOnACable();
        Check.write(full, "40:9:999oooo");
        c.due("fault() of a full PAGE", full.fault(), 9);
    }

    private void wire() {
        doc.says(0, "SPIN is kept: as the WIRE is read it is LENGTH times LENGTH times TURNS.");
        for (int length = 10; length <= 40; length++) {
            for (int turns = 1; turns <= 9; turns++) {
                TwoOnACable x = new TwoOnACable();
                Check.write(x, length + ":" + turns + ":500");
                c.due("SPIN of " + length + ":" + turns, x.wire(), length * length * turns);
                c.due("TURNS of " + length + ":" + turns, x.count(1), turns);
            }
        }
        doc.says(5, "STATE: it is none.");
        String wire = "40:9:999";
        for (int many = 0; many < wire.length(); many++) {
            isNone(wire.substring(0, many), many);
        }
        isNone("40:9:999oo", 9);
        isNone("40:9:9990", 8);
        isNone("40:9:999oooo", 9);
    }

    private void anotherWire() {
        doc.says(5, "THE PAGE is read as THE WIRE (another one is gone, with THINGS, HOURS, what was WEIGHED): SPIN;"
            + " THE PAGE is empty then.");
        TwoOnACable x = Check.wired("20:5:100o");
        x.thing(4, 20, 0);
        x.thing(0, 20, 1);
        x.weighed(20, 5);
        while (x.count(8) == 0) {
            x.hour(1);
        }
        Check.write(x, "20:5:10");
        c.refused(x, "a text that is none", x::wire, STATE);
        c.due("its letters stay", x.count(10), 7);
        c.due("the other one is not gone", x.count(9), 2);
        x.letters('0');
        c.due("another of the same length", x.wire(), 2000);
        int[] due = {20, 5, 2000, 25, 100, 0, 0, 0, 0, 0, 0, 2, 0};
        for (int what = 0; what < due.length; what++) {
            c.due("count(" + what + ") of another one", x.count(what), due[what]);
        }
        c.due("its THINGS are numbered from 0", x.thing(0, 1, 0), 0);
    }
}
