import java.util.Arrays;

/**
 * Every question with all numbers that it takes, for packs of 2 to 16 cards in several orders, each
 * answer held against the plain model.
 */
public final class SweepTest {
    private static final String[] COLOURS = {"", "c0,1;", "c1,0;c2,1;", "c0,3;c1,3;c2,2;c4,1;c5,2;c6,3;c7,3;c9,0;c10,1;"};
    /** An object is used for 512 calls at most, those by which it is laid among them. */
    private static final int QUESTIONS = 400;

    private final Check check = new Check();
    private final int cards;
    private String text;
    private int start;
    private LacedPack pack;
    private PlainPack plain;
    private int asked;

    private SweepTest(int cards) {
        this.cards = cards;
    }

    public static void main(String[] args) {
        Check all = new Check();
        for (int cards = 2; cards <= 16; cards++) {
            SweepTest sweep = new SweepTest(cards);
            sweep.askAll();
            all.holds(cards + " cards", sweep.check.isAsDue());
        }
        all.end();
    }

    private void askAll() {
        for (start = 0; start < 4; start++) {
            text = "n" + cards + ";" + colours() + "x1;l" + start + ";";
            begin();
            rounds();
            ways();
            if (start < 2) {
                chances();
                dealings();
            }
            sightings();
        }
    }

    private String colours() {
        StringBuilder told = new StringBuilder();
        for (String item : COLOURS[start].split(";")) {
            if (!item.isEmpty() && Integer.parseInt(item.substring(1, item.indexOf(','))) < cards) {
                told.append(item).append(';');
            }
        }
        return told.toString();
    }

    /** New objects, laid and brought into the start's order. */
    private void begin() {
        pack = Runs.laid(text);
        plain = new PlainPack();
        for (char letter : text.toCharArray()) {
            plain.write(letter);
        }
        plain.lay();
        asked = 0;
        for (int kind = 0; kind < start; kind++) {
            act("lace", kind + 1);
            act("cut", 1);
        }
    }

    private void act(String name, int... numbers) {
        check.same(text + " " + name + Arrays.toString(numbers), Runs.call(pack, name, numbers),
                Runs.call(plain, name, numbers));
    }

    private void ask(String name, int... numbers) {
        if (asked == QUESTIONS) {
            begin();
        }
        asked++;
        act(name, numbers);
    }

    private void rounds() {
        for (int kind = 0; kind <= 5; kind++) {
            ask("again", kind);
            ask("rounds", kind);
            for (int place = 0; place < cards; place++) {
                ask("round", place, kind);
            }
        }
    }

    private void ways() {
        ask("rising");
        ask("pairs");
        for (int n = 0; n <= 6; n++) {
            ask("orders", n);
        }
        for (int c = 0; c <= cards; c++) {
            ask("sure", c, 0);
            ask("sure", c, 1);
        }
        for (int card = 0; card < cards; card++) {
            for (int other = 0; other < cards; other++) {
                ask("beside", card, other);
                for (int k = -1; k <= 4; k++) {
                    ask("bring", card, other, k);
                }
            }
        }
    }

    private void chances() {
        for (int n = 0; n <= 5; n++) {
            for (int x = 0; x <= 10; x += n < 5 ? 5 : 1) {
                for (int place = 0; place < cards; place++) {
                    ask("likely", place * 5 % cards, place, n, x, 0);
                    ask("likely", place * 5 % cards, place, n, x, 1);
                }
            }
        }
    }

    private void dealings() {
        for (int z = 0; z < 10_000; z += 37) {
            for (int what = 0; what <= 2; what++) {
                ask("dealing", z, 1 + z % 60, what);
            }
        }
        for (int n = 1; n <= 60; n++) {
            for (int what = 0; what <= 2; what++) {
                ask("dealing", 9999, n, what);
            }
        }
    }

    private void sightings() {
        begin();
        for (int card = 0; card < cards; card++) {
            for (int place = 0; place < cards; place++) {
                ask("forget");
                act("seen", card, place);
                act("done", 0);
                act("done", 1);
                asked += 3;
                if (asked > QUESTIONS - 4) {
                    begin();
                }
            }
        }
    }
}
