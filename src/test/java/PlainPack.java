import java.math.BigInteger;
import java.util.ArrayList;
import java.util.Collections;
import java.util.HashSet;
import java.util.List;
import java.util.Set;
import java.util.regex.Matcher;
import java.util.regex.Pattern;

/**
 * The document's words once more, with lists moved card by card and questions answered by trying all
 * that can be: slow, and made in another way than the class, so that both are held against each other.
 */
final class PlainPack {
    static final int BAD = -1, NO = -2, FULL = -3, NONE = -4;

    private static final Pattern ITEM = Pattern.compile("([ncxl])([0-9]{1,2})(?:,([0-9]{1,2}))?;");

    private String text = "";
    private int cards;
    private int[] colours;
    private List<int[]> acts;
    private List<Integer> order;
    private final List<List<Integer>> past = new ArrayList<>();
    private final List<List<Integer>> kept = new ArrayList<>();
    private final List<int[]> sightings = new ArrayList<>();

    // what the last reading of THE TEXT told
    private int toldCards;
    private int[] toldColours;
    private List<int[]> toldActs;

    PlainPack() {
        text = "n10;c3,0;c4,2;l0;x3;l1;";
        lay();
        text = "";
    }

    int write(int letter) {
        if (letter < 32 || letter > 126) {
            return BAD;
        }
        if (text.length() == 200) {
            return FULL;
        }
        text += (char) letter;
        return text.length();
    }

    int wipe() {
        int length = text.length();
        text = "";
        return length;
    }

    int fault() {
        toldCards = 8;
        toldColours = null;
        toldActs = new ArrayList<>();
        boolean onlyCards = true;
        int start = 0;
        while (start < text.length()) {
            Matcher item = ITEM.matcher(text).region(start, text.length());
            if (!item.lookingAt()) {
                return start;
            }
            String letter = item.group(1);
            int first = Integer.parseInt(item.group(2));
            if (letter.equals("c") != (item.group(3) != null)) {
                return start;
            }
            if (letter.equals("n")) {
                if (!onlyCards || first < 2 || first > 16) {
                    return start;
                }
                toldCards = first;
            } else {
                onlyCards = false;
                if (toldColours == null) {
                    toldColours = coloursWithout();
                }
                int limit = letter.equals("l") ? 5 : toldCards;
                if (first >= limit) {
                    return start;
                }
                if (letter.equals("c")) {
                    int colour = Integer.parseInt(item.group(3));
                    if (colour > 3) {
                        return start;
                    }
                    toldColours[first] = colour;
                } else {
                    if (toldActs.size() == 16) {
                        return start;
                    }
                    toldActs.add(new int[] {letter.equals("l") ? 0 : 1, first});
                }
            }
            start = item.end();
        }
        return NONE;
    }

    private int[] coloursWithout() {
        int[] without = new int[16];
        for (int i = 0; i < 16; i++) {
            without[i] = i % 2;
        }
        return without;
    }

    int lay() {
        if (text.isEmpty() || fault() != NONE) {
            return NO;
        }
        cards = toldCards;
        colours = toldColours == null ? coloursWithout() : toldColours;
        acts = toldActs;
        order = asLaid();
        past.clear();
        kept.clear();
        sightings.clear();
        return cards;
    }

    private List<Integer> asLaid() {
        List<Integer> row = new ArrayList<>();
        for (int i = 0; i < cards; i++) {
            row.add(i);
        }
        return row;
    }

    private boolean isIn(int number) {
        return number >= 0 && number < cards;
    }

    int at(int place) {
        return isIn(place) ? order.get(place) : BAD;
    }

    int where(int card) {
        return isIn(card) ? order.indexOf(card) : BAD;
    }

    int colour(int card) {
        return isIn(card) ? colours[card] : BAD;
    }

    static List<Integer> laced(List<Integer> row, int kind) {
        int n = row.size();
        List<Integer> made = new ArrayList<>();
        List<Integer> left = new ArrayList<>(row);
        if (kind == 2) {
            while (!left.isEmpty()) {
                made.add(left.remove(0));
                if (!left.isEmpty()) {
                    made.add(left.remove(left.size() - 1));
                }
            }
            return made;
        }
        if (kind == 3) {
            while (!left.isEmpty()) {
                made.add(left.remove(0));
                if (!left.isEmpty()) {
                    left.add(left.remove(0));
                }
            }
            return made;
        }
        int half = kind == 0 ? n - n / 2 : n / 2;
        List<Integer> upper = new ArrayList<>(row.subList(0, half));
        List<Integer> lower = new ArrayList<>(row.subList(half, n));
        if (kind == 4) {
            Collections.reverse(lower);
        }
        List<Integer> one = kind == 0 ? upper : lower;
        List<Integer> two = kind == 0 ? lower : upper;
        while (!one.isEmpty() || !two.isEmpty()) {
            if (!one.isEmpty()) {
                made.add(one.remove(0));
            }
            if (!two.isEmpty()) {
                made.add(two.remove(0));
            }
        }
        return made;
    }

    static List<Integer> cutAt(List<Integer> row, int c) {
        List<Integer> made = new ArrayList<>(row.subList(c, row.size()));
        made.addAll(row.subList(0, c));
        return made;
    }

    static List<Integer> turnedOver(List<Integer> row) {
        List<Integer> made = new ArrayList<>(row);
        Collections.reverse(made);
        return made;
    }

    private List<Integer> dealt(List<Integer> row) {
        List<Integer> made = row;
        for (int[] act : acts) {
            made = act[0] == 0 ? laced(made, act[1]) : cutAt(made, act[1]);
        }
        return made;
    }

    private int act(List<Integer> then) {
        past.add(order);
        if (past.size() > 8) {
            past.remove(0);
        }
        order = then;
        return order.get(0);
    }

    int lace(int kind) {
        return kind < 0 || kind > 4 ? BAD : act(laced(order, kind));
    }

    int cut(int c) {
        return isIn(c) ? act(cutAt(order, c)) : BAD;
    }

    int turn() {
        return act(turnedOver(order));
    }

    int deal() {
        return act(dealt(order));
    }

    int undo() {
        if (past.isEmpty()) {
            return NO;
        }
        order = past.remove(past.size() - 1);
        return past.size();
    }

    int again(int kind) {
        if (kind < 0 || kind > 5) {
            return BAD;
        }
        List<Integer> row = order;
        int times = 0;
        do {
            row = kind == 5 ? dealt(row) : laced(row, kind);
            times++;
        } while (!row.equals(order));
        return times;
    }

    int round(int place, int kind) {
        if (!isIn(place) || kind < 0 || kind > 4) {
            return BAD;
        }
        List<Integer> row = order;
        int times = 0;
        do {
            row = laced(row, kind);
            times++;
        } while (!row.get(place).equals(order.get(place)));
        return times;
    }

    int rounds(int kind) {
        if (kind < 0 || kind > 4) {
            return BAD;
        }
        Set<Set<Integer>> all = new HashSet<>();
        for (int place = 0; place < cards; place++) {
            Set<Integer> places = new HashSet<>();
            List<Integer> row = order;
            for (int time = 0; time < cards; time++) {
                row = laced(row, kind);
                places.add(row.indexOf(order.get(place)));
            }
            all.add(places);
        }
        return all.size();
    }

    /** All orders by so many lacings by OUT and IN, those that begin with OUT ahead of the others. */
    private List<List<Integer>> byLacings(int count) {
        List<List<Integer>> rows = List.of(order);
        for (int step = 0; step < count; step++) {
            List<List<Integer>> next = new ArrayList<>();
            for (List<Integer> row : rows) {
                next.add(laced(row, 0));
                next.add(laced(row, 1));
            }
            rows = next;
        }
        return rows;
    }

    int bring(int card, int place, int k) {
        if (!isIn(card) || !isIn(place) || k < -1) {
            return BAD;
        }
        for (int count = 0; count <= 10; count++) {
            List<List<Integer>> rows = byLacings(count);
            for (int way = 0; way < rows.size(); way++) {
                if (rows.get(way).get(place) == card) {
                    if (k == -1) {
                        return count;
                    }
                    return k >= count ? NONE : (way >> (count - 1 - k)) & 1;
                }
            }
        }
        return NONE;
    }

    int beside(int a, int b) {
        if (!isIn(a) || !isIn(b) || a == b) {
            return BAD;
        }
        for (int count = 0; count <= 8; count++) {
            for (List<Integer> row : byLacings(count)) {
                if (Math.abs(row.indexOf(a) - row.indexOf(b)) == 1) {
                    return count;
                }
            }
        }
        return NONE;
    }

    int orders(int n) {
        if (n < 0 || n > 6) {
            return BAD;
        }
        Set<List<Integer>> all = new HashSet<>();
        for (int count = 0; count <= n; count++) {
            all.addAll(byLacings(count));
        }
        return all.size();
    }

    int rising() {
        return rising(order);
    }

    private int rising(List<Integer> row) {
        int rows = 1;
        for (int card = 0; card < cards - 1; card++) {
            if (row.indexOf(card + 1) < row.indexOf(card)) {
                rows++;
            }
        }
        return rows;
    }

    int pairs() {
        return pairs(order);
    }

    private int pairs(List<Integer> row) {
        int unlike = 0;
        for (int pair = 0; pair < cards / 2; pair++) {
            if (colours[row.get(2 * pair)] != colours[row.get(2 * pair + 1)]) {
                unlike++;
            }
        }
        return unlike;
    }

    int sure(int c, int part) {
        if (c < 0 || c > cards || part < 0 || part > 1) {
            return BAD;
        }
        List<Integer> off = turnedOver(order.subList(0, c));
        List<Integer> rest = order.subList(c, cards);
        int all = 0;
        int good = 0;
        for (int mask = 0; mask < 1 << cards; mask++) {
            if (Integer.bitCount(mask) == c) {
                List<Integer> row = new ArrayList<>();
                int i = 0;
                int j = 0;
                for (int place = 0; place < cards; place++) {
                    row.add((mask >> place & 1) == 1 ? off.get(i++) : rest.get(j++));
                }
                all++;
                if (pairs(row) == cards / 2) {
                    good++;
                }
            }
        }
        return lowest(BigInteger.valueOf(good), BigInteger.valueOf(all), part);
    }

    private static int lowest(BigInteger above, BigInteger below, int part) {
        return (part == 0 ? above : below).divide(above.gcd(below)).intValueExact();
    }

    int seen(int card, int place) {
        if (!isIn(card) || !isIn(place)) {
            return BAD;
        }
        if (sightings.size() == 8) {
            return FULL;
        }
        sightings.add(new int[] {card, place});
        return sightings.size();
    }

    int forget() {
        int held = sightings.size();
        sightings.clear();
        return held;
    }

    private boolean fits(List<Integer> row) {
        for (int[] sighting : sightings) {
            if (row.get(sighting[1]) != sighting[0]) {
                return false;
            }
        }
        return true;
    }

    int done(int what) {
        if (what != 0 && what != 1) {
            return BAD;
        }
        int bits = 0;
        for (int i = 0; i < (what == 0 ? 6 : cards); i++) {
            List<Integer> row = what == 1 ? cutAt(asLaid(), i)
                    : i < 5 ? laced(asLaid(), i) : turnedOver(asLaid());
            if (fits(row)) {
                bits += 1 << i;
            }
        }
        return bits;
    }

    int likely(int card, int place, int n, int x, int part) {
        if (!isIn(card) || !isIn(place) || n < 0 || n > 5 || x < 0 || x > 10 || part < 0 || part > 1) {
            return BAD;
        }
        BigInteger above = BigInteger.valueOf(chance(order, card, place, n, x));
        return lowest(above, BigInteger.TEN.pow(n), part);
    }

    private static int chance(List<Integer> row, int card, int place, int n, int x) {
        if (n == 0) {
            return row.get(place) == card ? 1 : 0;
        }
        return x * chance(laced(row, 0), card, place, n - 1, x)
                + (10 - x) * chance(laced(row, 1), card, place, n - 1, x);
    }

    int dealing(int z, int n, int what) {
        if (z < 0 || z > 9999 || n < 1 || n > 60 || what < 0 || what > 2) {
            return BAD;
        }
        List<Integer> row = order;
        for (int time = 0; time < n; time++) {
            BigInteger x = BigInteger.valueOf(7919).multiply(BigInteger.valueOf(z))
                    .add(BigInteger.valueOf(6151).multiply(BigInteger.valueOf(time))).add(BigInteger.ONE);
            int draw = x.multiply(x).mod(BigInteger.valueOf(65521)).intValueExact() / 2;
            int pick = draw % 7;
            row = pick == 6 ? turnedOver(row) : pick == 5 ? cutAt(row, draw / 8 % cards) : laced(row, pick);
        }
        int same = 0;
        for (int place = 0; place < cards; place++) {
            if (row.get(place).equals(order.get(place))) {
                same++;
            }
        }
        return what == 0 ? row.get(0) : what == 1 ? same : rising(row);
    }

    int keep() {
        if (kept.size() == 2) {
            return FULL;
        }
        kept.add(order);
        return kept.size();
    }

    int back() {
        if (kept.isEmpty()) {
            return NO;
        }
        order = kept.remove(kept.size() - 1);
        past.clear();
        return kept.size();
    }

    int count(int what) {
        int[] counts = {cards, acts.size(), sightings.size(), past.size(), kept.size(), text.length()};
        return what >= 0 && what < counts.length ? counts[what] : BAD;
    }
}
