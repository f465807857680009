import java.util.ArrayList;
import java.util.Arrays;
import java.util.List;

/** Long runs of calls by a fixed rule, each answer held against the plain model. */
public final class CompareTest {
    private static final int RUNS = 400;
    private static final int CALLS = 400;

    private final Check check = new Check();
    private final Runs draws;
    private final LacedPack pack = new LacedPack();
    private final PlainPack plain = new PlainPack();
    private final List<String> names = new ArrayList<>(Runs.calls().keySet());
    private int calls;

    private CompareTest(long seed) {
        draws = new Runs(seed);
    }

    public static void main(String[] args) {
        Check all = new Check();
        for (int run = 0; run < RUNS; run++) {
            all.holds("run " + run, new CompareTest(run).isAlike());
        }
        all.end();
    }

    private boolean isAlike() {
        if (draws.below(8) != 0) {
            if (!writes(draws.below(4) == 0 ? text() : goodText()) || !asks("lay")) {
                return false;
            }
        }
        while (calls < CALLS) {
            int choice = draws.below(60);
            boolean alike = choice == 0 ? asks("wipe") && writes(text()) && asks("fault")
                    : choice == 1 ? asks("wipe") && writes(goodText()) && asks("lay")
                    : choice < 12 ? asks(draws.below(3) == 0 ? "undo" : "count") && places()
                    : asks(names.get(draws.below(names.size())));
            if (!alike) {
                return false;
            }
        }
        return true;
    }

    private boolean asks(String name) {
        int[] numbers = new int[FaceTest.FACE.get(name)];
        for (int i = 0; i < numbers.length; i++) {
            numbers[i] = number(name, i);
        }
        if (name.equals("lay") && draws.below(3) != 0 && calls > 260) {
            return true;
        }
        return asks(name, numbers);
    }

    private boolean asks(String name, int... numbers) {
        calls++;
        int got = Runs.call(pack, name, numbers);
        int due = Runs.call(plain, name, numbers);
        if (got != due) {
            System.out.println(calls + ". " + name + Arrays.toString(numbers) + " answered " + got + ", due is " + due);
        }
        return got == due;
    }

    private boolean places() {
        for (int place = 0; place < plain.count(0); place++) {
            if (!asks("at", place)) {
                return false;
            }
        }
        return true;
    }

    private int number(String name, int i) {
        if (name.equals("dealing")) {
            return i == 0 ? draws.below(10002) - 1 : i == 1 ? draws.below(63) - 1 : draws.below(5) - 1;
        }
        if (name.equals("write")) {
            return 30 + draws.below(100);
        }
        int cards = plain.count(0);
        if (name.equals("likely") && i >= 2) {
            return i == 2 ? draws.below(8) - 1 : i == 3 ? draws.below(13) - 1 : draws.below(4) - 1;
        }
        if (name.equals("bring") && i == 2) {
            return draws.below(8) - 2;
        }
        if (name.equals("seen") && draws.below(4) != 0) {
            return draws.below(cards);
        }
        boolean isSmall = name.equals("lace") || name.equals("again") || name.equals("rounds") || name.equals("done")
                || name.equals("count") || name.equals("orders") || (i == 1 && (name.equals("round") || name.equals("sure")));
        return isSmall ? draws.below(9) - 1 : draws.below(cards + 3) - 1;
    }

    private boolean writes(String text) {
        for (char letter : text.toCharArray()) {
            if (!asks("write", letter)) {
                return false;
            }
        }
        return true;
    }

    private String goodText() {
        StringBuilder text = new StringBuilder();
        int cards = 8;
        for (int i = draws.below(3); i > 0; i--) {
            cards = 2 + draws.below(15);
            text.append('n').append(cards).append(';');
        }
        for (int i = draws.below(9); i > 0; i--) {
            text.append('c').append(draws.below(cards)).append(',').append(draws.below(4)).append(';');
        }
        for (int i = draws.below(8); i > 0; i--) {
            boolean isLacing = draws.below(2) == 0;
            text.append(isLacing ? 'l' : 'x').append(draws.below(isLacing ? 5 : cards)).append(';');
        }
        return text.length() == 0 ? "n16;" : text.toString();
    }

    /** A text in which some letters may be others, missing, or too many. */
    private String text() {
        StringBuilder text = new StringBuilder(goodText());
        String letters = "nclx0123456789,;;; ";
        for (int i = draws.below(3); i > 0; i--) {
            int place = draws.below(text.length());
            char letter = letters.charAt(draws.below(letters.length()));
            int way = draws.below(3);
            if (way == 0) {
                text.setCharAt(place, letter);
            } else if (way == 1) {
                text.insert(place, letter);
            } else if (text.length() > 1) {
                text.deleteCharAt(place);
            }
        }
        return text.toString();
    }
}
