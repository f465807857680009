/** Every call with numbers far and near out of what is told: nothing throws, nothing bad is taken. */
public final class EdgeTest {
    private static final int[] NUMBERS = {
        Integer.MIN_VALUE, -1_000_000, -17, -5, -2, -1, 0, 1, 2, 3, 5, 6, 7, 8, 9, 10, 11, 15, 16, 17, 31, 32,
        59, 60, 61, 126, 127, 9999, 10000, 65536, 1 << 30, Integer.MAX_VALUE
    };
    private static final String[] TEXTS = {
        "n2;", "n3;l3;", "n10;c3,0;", "n15;x14;l4;", "n16;c15,3;l0;l1;l2;l3;l4;x15;"
    };

    public static void main(String[] args) {
        Check check = new Check();
        for (String text : TEXTS) {
            for (String name : Runs.calls().keySet()) {
                tryAll(check, text, name);
            }
        }
        check.end();
    }

    private static void tryAll(Check check, String text, String name) {
        int taken = FaceTest.FACE.get(name);
        int[] numbers = new int[taken];
        long ways = (long) Math.pow(NUMBERS.length, Math.min(taken, 2));
        Runs draws = new Runs(name.hashCode());
        LacedPack pack = Runs.laid(text);
        PlainPack plain = new PlainPack();
        for (char letter : text.toCharArray()) {
            plain.write(letter);
        }
        plain.lay();
        for (int way = 0; way < (taken > 2 ? 400 : Math.min(ways, 400)); way++) {
            for (int i = 0; i < taken; i++) {
                int pick = taken > 2 ? draws.below(NUMBERS.length)
                        : i == 0 ? way % NUMBERS.length : way / NUMBERS.length * 5 % NUMBERS.length;
                numbers[i] = NUMBERS[pick];
            }
            String told = text + " " + name + java.util.Arrays.toString(numbers);
            check.same(told, Runs.call(pack, name, numbers), Runs.call(plain, name, numbers));
        }
        check.same(text + " order behind " + name, Runs.order(pack).hashCode(), order(plain).hashCode());
    }

    private static String order(PlainPack plain) {
        StringBuilder row = new StringBuilder();
        for (int place = 0; place < plain.count(0); place++) {
            row.append(place == 0 ? "" : " ").append(plain.at(place));
        }
        return row.toString();
    }
}
