import java.math.BigInteger;
import java.util.ArrayList;
import java.util.List;

/**
 * The document once more, told in another way and slowly: the random runs are held against it.
 * It counts fits one by one, tries every way of the hours, and takes fractions as BigIntegers.
 */
final class Model {
    static final int NONE = -1, UNKNOWN = -101, OUTSIDE = -102, STATE = -103, FULL = -104;

    record Item(int kind, int weight, int cabin, int came) {
        int weighs(int hours) {
            int sixes = (hours - came) / 6;
            int[] more = {0, 2, 0, sixes, 2 * sixes};
            return weight + more[kind];
        }

        Item across() {
            return new Item(kind, weight, 1 - cabin, came);
        }
    }

    record Snap(int length, int place, int hours, boolean broken, List<Item> items) { }

    private String page = "";
    private String text = null;
    private int length = 0, place = 0, hours = 0, reads = 0;
    private boolean broken = false;
    private List<Item> items = new ArrayList<>();
    private final List<int[]> told = new ArrayList<>();
    private Snap snap = null;

    private int spin() {
        int at = text == null ? 0 : Integer.parseInt(text.substring(0, 2));
        return text == null ? 0 : at * at * (text.charAt(3) - '0');
    }

    private int bears() {
        return text == null ? 0 : Integer.parseInt(text.substring(5, 8));
    }

    private int turns(int at) {
        return text == null ? 0 : spin() / (at * at);
    }

    private static int heavy(List<Item> some, int cabin, int when) {
        return 10 + some.stream().filter(i -> i.cabin() == cabin).mapToInt(i -> i.weighs(when)).sum();
    }

    private int arm(List<Item> some, int cabin, int at, int when) {
        int a = heavy(some, 0, when);
        int b = heavy(some, 1, when);
        return cabin == 0 ? at * b / (a + b) : at - at * b / (a + b);
    }

    private int floor(List<Item> some, int cabin, int at, int when) {
        return arm(some, cabin, at, when) * turns(at) * turns(at);
    }

    private int strain(int at, int when) {
        return heavy(items, 0, when) * floor(items, 0, at, when) / 100;
    }

    int letters(long w) {
        StringBuilder more = new StringBuilder();
        boolean over = false;
        for (long rest = w; rest != 0; rest >>>= 8) {
            if ((rest & 255) > 126 || (rest & 255) == 0) {
                over = true;
            }
            more.append((char) (rest & 255));
        }
        if (over) {
            return OUTSIDE;
        }
        if (page.length() + more.length() > 12) {
            return FULL;
        }
        page += more;
        return page.length();
    }

    int blank() {
        int had = page.length();
        page = "";
        return had;
    }

    int fault() {
        String sample = "10:1:100o";
        for (int i = 0; i < page.length(); i++) {
            String head = page.substring(0, i + 1);
            boolean can = i < 9 && (isWireText(head + sample.substring(i + 1))
                || isWireText(head + "0:1:100o".substring(Math.min(8, i))));
            if (!can) {
                return i;
            }
        }
        return page.length();
    }

    private static boolean isWireText(String some) {
        return some.matches("(?:[123][0-9]|40):[1-9]:[1-9][0-9][0-9]o?");
    }

    int wire() {
        if (!isWireText(page)) {
            return STATE;
        }
        text = page;
        page = "";
        length = Integer.parseInt(text.substring(0, 2));
        place = 0;
        hours = 0;
        broken = false;
        items = new ArrayList<>();
        told.clear();
        snap = null;
        reads++;
        return spin();
    }

    int cabin(int cabin, int what) {
        if (cabin != 0 && cabin != 1) {
            return UNKNOWN;
        }
        if (what < 0 || what > 3) {
            return OUTSIDE;
        }
        if (text == null) {
            return STATE;
        }
        return switch (what) {
            case 0 -> heavy(items, cabin, hours);
            case 1 -> arm(items, cabin, length, hours);
            case 2 -> floor(items, cabin, length, hours);
            default -> (int) items.stream().filter(i -> i.cabin() == cabin).count();
        };
    }

    int thing(int kind, int weight, int cabin) {
        if (cabin != 0 && cabin != 1) {
            return UNKNOWN;
        }
        if (kind < 0 || kind > 4 || weight < 1 || weight > 20) {
            return OUTSIDE;
        }
        if (text == null) {
            return STATE;
        }
        if (items.size() == 6) {
            return FULL;
        }
        items.add(new Item(kind, weight, cabin, hours));
        return items.size() - 1;
    }

    private boolean names(int thing) {
        return thing >= 0 && thing < items.size();
    }

    int about(int thing, int what) {
        if (!names(thing)) {
            return UNKNOWN;
        }
        if (what < 0 || what > 4) {
            return OUTSIDE;
        }
        Item i = items.get(thing);
        return new int[] {i.kind(), i.weight(), i.cabin(), i.weighs(hours), hours - i.came()}[what];
    }

    int as(int thing, int kind) {
        if (!names(thing)) {
            return UNKNOWN;
        }
        if (kind < 0 || kind > 4) {
            return OUTSIDE;
        }
        int is = items.get(thing).kind();
        return kind == 0 || kind == is || (is == 4 && kind == 3) ? thing : NONE;
    }

    private boolean stays(Item item) {
        return item.kind() == 2 && turns(length) > 2;
    }

    int carry(int thing) {
        if (!names(thing)) {
            return UNKNOWN;
        }
        if (broken || stays(items.get(thing))) {
            return STATE;
        }
        items.set(thing, items.get(thing).across());
        return items.get(thing).cabin();
    }

    int hour(int by) {
        if (by < -3 || by > 3) {
            return OUTSIDE;
        }
        if (text == null || broken || length - by < 10 || length - by > 40) {
            return STATE;
        }
        length -= by;
        hours += 1;
        place = (place + 10 * turns(length)) % 360;
        broken = strain(length, hours) > bears();
        return broken ? NONE : length;
    }

    int even(int what) {
        if (what < 0 || what > 1) {
            return OUTSIDE;
        }
        if (text == null || broken) {
            return STATE;
        }
        long best = Long.MAX_VALUE;
        for (int set = 0; set < 1 << items.size(); set++) {
            List<Item> then = new ArrayList<>();
            boolean can = true;
            int sum = 0;
            for (int i = 0; i < items.size(); i++) {
                boolean goes = (set >> i) % 2 == 1;
                can &= !goes || !stays(items.get(i));
                sum += goes ? items.get(i).weighs(hours) : 0;
                then.add(goes ? items.get(i).across() : items.get(i));
            }
            int gap = Math.abs(floor(then, 0, length, hours) - floor(then, 1, length, hours));
            if (can) {
                best = Math.min(best, gap * 10_000_000L + sum * 1000L + set);
            }
        }
        return (int) (what == 0 ? best / 10_000_000L : best % 1000);
    }

    int soonest(int floor, int what) {
        if (floor < 1 || floor > 9999 || what < 0 || what > 1) {
            return OUTSIDE;
        }
        if (text == null || broken) {
            return STATE;
        }
        for (int in = 0; in <= 12; in++) {
            int way = wayTo(floor, length, 0, in);
            if (way >= 0) {
                return what == 0 ? in : in == 0 ? NONE : way;
            }
        }
        return NONE;
    }

    private final java.util.Map<Integer, Integer> seen = new java.util.HashMap<>();

    /** The least first way by which the floor is had after just so many hours; -1 if by none. */
    private int wayTo(int floor, int at, int gone, int in) {
        if (gone == 0) {
            seen.clear();
        }
        int key = (at * 13 + gone) * 13 + in;
        if (!seen.containsKey(key)) {
            seen.put(key, wayToAnew(floor, at, gone, in));
        }
        return seen.get(key);
    }

    private int wayToAnew(int floor, int at, int gone, int in) {
        if (gone > 0 && strain(at, hours + gone) > bears()) {
            return -1;
        }
        if (gone == in) {
            int had = floor(items, 0, at, hours + gone);
            return had >= floor && 2 * had <= 3 * floor ? 0 : -1;
        }
        int[] more = {0, -1, -2, -3, 1, 2, 3};
        for (int way = 0; way < 7; way++) {
            int then = at + more[way];
            if (then >= 10 && then <= 40 && wayTo(floor, then, gone + 1, in) >= 0) {
                return way;
            }
        }
        return -1;
    }

    int caught(int in) {
        if (in < 1 || in > 99) {
            return OUTSIDE;
        }
        if (text == null || broken) {
            return STATE;
        }
        int from = (90 - in * turns(length) % 360 + 360) % 360;
        int at = place;
        for (int k = 0; k <= 98; k++) {
            for (int off = -5; off <= 5; off++) {
                if ((at + off + 360) % 360 == from) {
                    return k;
                }
            }
            at = (at + 10 * turns(length)) % 360;
        }
        return NONE;
    }

    int weighed(int at, int many) {
        if (at < 10 || at > 40 || many < 0 || many > 99) {
            return OUTSIDE;
        }
        if (text == null) {
            return STATE;
        }
        if (told.size() == 6) {
            return FULL;
        }
        told.add(new int[] {at, many});
        return told.size();
    }

    int forget() {
        int had = told.size();
        told.clear();
        return had;
    }

    int fits(int what) {
        if (what < 0 || what > 2) {
            return OUTSIDE;
        }
        int many = 0;
        int least = NONE;
        int greatest = NONE;
        for (int s = 1; s <= 14400; s++) {
            boolean is = true;
            for (int[] row : told) {
                is &= s / (row[0] * row[0]) == row[1];
            }
            if (is) {
                many++;
                least = least == NONE ? s : least;
                greatest = s;
            }
        }
        return new int[] {many, least, greatest}[what];
    }

    long lasts(int in, int part) {
        if (in < 1 || in > 4 || part < 0 || part > 1) {
            return OUTSIDE;
        }
        if (text == null || broken) {
            return STATE;
        }
        int strain = strain(length, hours);
        int breaks = strain > bears() ? 100 : text.endsWith("o") ? 100 * strain / bears() : 0;
        BigInteger above = BigInteger.valueOf(100 - breaks).pow(in);
        BigInteger below = BigInteger.valueOf(100).pow(in);
        return (part == 0 ? above : below).divide(above.gcd(below)).longValueExact();
    }

    int whirls(int in, int seed, int what) {
        if (in < 1 || in > 60 || seed < 0 || what < 0 || what > 3) {
            return OUTSIDE;
        }
        if (text == null || broken) {
            return STATE;
        }
        Snap was = snapped();
        BigInteger s = BigInteger.valueOf(seed);
        for (int i = 0; i < in && !broken; i++) {
            s = s.multiply(BigInteger.valueOf(1103515245)).add(BigInteger.valueOf(12345))
                .mod(BigInteger.TWO.pow(31));
            int way = s.divide(BigInteger.valueOf(65536)).mod(BigInteger.valueOf(7)).intValueExact();
            int by = new int[] {0, 1, 2, 3, -1, -2, -3}[way];
            if (hour(by) == STATE) {
                hour(0);
            }
        }
        int[] then = {length, place, hours - was.hours(), s.intValueExact()};
        goBack(was);
        return then[what];
    }

    private Snap snapped() {
        return new Snap(length, place, hours, broken, new ArrayList<>(items));
    }

    private void goBack(Snap was) {
        length = was.length();
        place = was.place();
        hours = was.hours();
        broken = was.broken();
        items = new ArrayList<>(was.items());
    }

    int image() {
        if (text == null) {
            return STATE;
        }
        snap = snapped();
        return hours;
    }

    int restore() {
        if (snap == null) {
            return STATE;
        }
        goBack(snap);
        return hours;
    }

    int count(int what) {
        return switch (what) {
            case 0 -> length;
            case 1 -> turns(length);
            case 2 -> spin();
            case 3 -> text == null ? 0 : strain(length, hours);
            case 4 -> bears();
            case 5 -> text != null && text.endsWith("o") ? 1 : 0;
            case 6 -> place;
            case 7 -> hours;
            case 8 -> broken ? 1 : 0;
            case 9 -> items.size();
            case 10 -> page.length();
            case 11 -> reads;
            case 12 -> told.size();
            default -> OUTSIDE;
        };
    }

    long digest() {
        List<Long> all = new ArrayList<>();
        for (int i = 0; text != null && i < 8; i++) {
            all.add((long) cabin(i / 4, i % 4));
        }
        for (int i = 0; i < 5 * items.size(); i++) {
            all.add((long) about(i / 5, i % 5));
        }
        if (text != null && !broken) {
            all.addAll(List.of((long) even(0), (long) even(1), (long) soonest(100, 0), (long) soonest(100, 1),
                lasts(2, 0), lasts(2, 1)));
        }
        all.addAll(List.of((long) fits(0), (long) fits(1), (long) fits(2)));
        page.chars().forEach(c -> all.add((long) c));
        for (int i = 0; i < 13; i++) {
            all.add((long) count(i));
        }
        long h = 683;
        for (long number : all) {
            h = 31 * h + number;
        }
        return h;
    }
}
