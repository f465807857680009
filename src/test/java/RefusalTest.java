import java.util.Arrays;
import java.util.List;

/** The sentences on BAD, NO, NONE and FULL: each refused call, which answer comes first, that nothing changes then. */
public final class RefusalTest {
    private static final int BAD = -1, NO = -2, FULL = -3, NONE = -4;
    private static final int[] FAR = {Integer.MIN_VALUE, -65536, -2, 100, 65536, Integer.MAX_VALUE};

    /** The numbers that a call takes, the last good one of each. */
    private record Taken(String name, int[] least, int[] most) {
    }

    public static void main(String[] args) {
        Sentences all = new Sentences();
        badNumbers(all);
        notAsThingsStand(all);
        noneAndFull(all);
        whichComesFirst(all);
        questions(all);
        all.end();
    }

    private static List<Taken> calls(int cards) {
        int last = cards - 1;
        return List.of(
                taken("write", 32, 126), taken("at", 0, last), taken("where", 0, last), taken("colour", 0, last),
                taken("lace", 0, 4), taken("cut", 0, last), taken("again", 0, 5), taken("round", 0, last, 0, 4),
                taken("rounds", 0, 4), taken("bring", 0, last, 0, last, -1, Integer.MAX_VALUE),
                taken("beside", 0, last, 0, last), taken("orders", 0, 6), taken("sure", 0, cards, 0, 1),
                taken("seen", 0, last, 0, last), taken("done", 0, 1),
                taken("likely", 0, last, 0, last, 0, 5, 0, 10, 0, 1), taken("dealing", 0, 9999, 1, 60, 0, 2),
                taken("count", 0, 5));
    }

    private static Taken taken(String name, int... ends) {
        int[] least = new int[ends.length / 2];
        int[] most = new int[ends.length / 2];
        for (int i = 0; i < least.length; i++) {
            least[i] = ends[2 * i];
            most[i] = ends[2 * i + 1];
        }
        return new Taken(name, least, most);
    }

    private static void badNumbers(Sentences all) {
        all.told("BAD is looked at for each call that takes a number", check -> {
            for (String name : Runs.calls().keySet()) {
                int numbers = FaceTest.FACE.get(name);
                long told = calls(16).stream().filter(call -> call.name().equals(name)).count();
                check.same("rows for " + name, told, numbers == 0 ? 0 : 1);
            }
        });
        for (int cards : new int[] {2, 10, 16}) {
            for (Taken call : calls(cards)) {
                String sentence = "BAD: a number is none that is told; nothing changes then: ";
                all.told(sentence + call.name() + " of " + cards, check -> badNumbersOf(check, call, cards));
            }
        }
    }

    /** Each number one too small, one too large, or far out, the others being good ones at each end. */
    private static void badNumbersOf(Check check, Taken call, int cards) {
        for (int i = 0; i < call.least().length; i++) {
            for (int[] others : new int[][] {call.least(), call.most()}) {
                int[] numbers = others.clone();
                numbers[i] = call.least()[i] - 1;
                refused(check, call.name(), numbers, cards, BAD);
                if (call.most()[i] == Integer.MAX_VALUE) {
                    continue;
                }
                numbers[i] = call.most()[i] + 1;
                refused(check, call.name(), numbers, cards, BAD);
                for (int far : FAR) {
                    if (far < call.least()[i] || far > call.most()[i]) {
                        numbers[i] = far;
                        refused(check, call.name(), numbers, cards, BAD);
                    }
                }
            }
        }
        Arrays.stream(new int[][] {call.least(), call.most()}).forEach(numbers -> {
            int answer = Runs.call(half(cards), call.name(), numbers);
            boolean isAlike = call.name().equals("beside");
            check.holds(call.name() + Arrays.toString(numbers) + " is taken", answer != BAD || isAlike);
        });
    }

    private static void notAsThingsStand(Sentences all) {
        all.told("NO: not as things stand; nothing changes then: undo", check -> {
            LacedPack pack = new LacedPack();
            LacedPack twin = new LacedPack();
            for (LacedPack each : new LacedPack[] {pack, twin}) {
                each.turn();
                each.keep();
                each.back();
                each.seen(1, 2);
            }
            check.same("undo()", pack.undo(), NO);
            check.same("undo()", pack.undo(), NO);
            check.holds("nothing changes", Runs.trace(pack).equals(Runs.trace(twin)));
        });
        all.told("NO: not as things stand; nothing changes then: back", check -> {
            LacedPack pack = new LacedPack();
            LacedPack twin = new LacedPack();
            for (LacedPack each : new LacedPack[] {pack, twin}) {
                each.turn();
                each.lace(0);
            }
            check.same("back()", pack.back(), NO);
            check.same("back()", pack.back(), NO);
            check.same("what can be UNDONE stays", pack.count(3), 2);
            check.holds("nothing changes", Runs.trace(pack).equals(Runs.trace(twin)));
        });
        for (String text : new String[] {"", "n1;", "n17;", "n6;c1,3;l2", "n6;c1,3;l2;n7;", "c1,3;l2;x5;z"}) {
            all.told("NO: not as things stand; nothing changes then: lay of '" + text + "'", check ->
                same(check, "lay()", 10, pack -> rewrite(pack, text), pack -> {
                    rewrite(pack, text);
                    check.same("lay()", pack.lay(), NO);
                    check.same("lay() again", pack.lay(), NO);
                }));
        }
    }

    private static void noneAndFull(Sentences all) {
        all.told("NONE: there is none; nothing changes then", check -> {
            refused(check, "bring", new int[] {0, 0, 4}, 16, NONE);
            refused(check, "bring", new int[] {0, 1, Integer.MAX_VALUE}, 10, NONE);
            LacedPack pack = Runs.laid("n16;");
            check.same("beside(0, 5)", pack.beside(0, 5), NONE);
            check.holds("nothing changes by beside", Runs.trace(pack).equals(Runs.trace(Runs.laid("n16;"))));
            pack = Runs.laid("n16;");
            check.same("fault()", pack.fault(), NONE);
            check.holds("nothing changes by fault", Runs.trace(pack).equals(Runs.trace(Runs.laid("n16;"))));
        });
        all.told("FULL; nothing changes then: write", check -> refused(check, "write", new int[] {'z'}, 10, FULL));
        all.told("FULL; nothing changes then: seen", check -> refused(check, "seen", new int[] {0, 1}, 10, FULL));
        all.told("FULL; nothing changes then: keep", check -> refused(check, "keep", new int[0], 10, FULL));
    }

    private static void whichComesFirst(Sentences all) {
        all.told("Of several the first in this order: BAD ahead of FULL", check -> {
            refused(check, "write", new int[] {31}, 10, BAD);
            refused(check, "write", new int[] {127}, 10, BAD);
            refused(check, "seen", new int[] {10, 0}, 10, BAD);
            refused(check, "seen", new int[] {0, 10}, 10, BAD);
        });
        all.told("Of several the first in this order: BAD ahead of NONE", check -> {
            refused(check, "bring", new int[] {10, 0, 99}, 10, BAD);
            refused(check, "bring", new int[] {0, 10, 99}, 10, BAD);
            refused(check, "bring", new int[] {3, 3, -2}, 10, BAD);
            refused(check, "beside", new int[] {5, 16}, 16, BAD);
            refused(check, "beside", new int[] {5, 5}, 16, BAD);
        });
    }

    private static void questions(Sentences all) {
        all.told("Nothing is promised beyond the answers and state changes described: a question changes nothing", check -> {
            for (Taken call : calls(10)) {
                boolean isAct = List.of("write", "lace", "cut", "seen").contains(call.name());
                for (int[] numbers : new int[][] {call.least(), call.most()}) {
                    if (!isAct) {
                        same(check, call.name(), 10, pack -> { }, pack -> Runs.call(pack, call.name(), numbers));
                    }
                }
            }
            for (String name : new String[] {"fault", "rising", "pairs"}) {
                same(check, name, 10, pack -> { }, pack -> Runs.call(pack, name, new int[0]));
            }
        });
        all.told("a question is answered alike again and again", check -> {
            LacedPack pack = half(16);
            for (Taken call : calls(16)) {
                boolean isAct = List.of("write", "lace", "cut", "seen").contains(call.name());
                if (!isAct) {
                    int first = Runs.call(pack, call.name(), call.most());
                    Runs.call(pack, call.name(), call.least());
                    check.same(call.name() + " again", Runs.call(pack, call.name(), call.most()), first);
                }
            }
        });
    }

    private static void refused(Check check, String name, int[] numbers, int cards, int due) {
        LacedPack pack = full(cards);
        int answer = Runs.call(pack, name, numbers);
        String what = name + Arrays.toString(numbers) + " of " + cards;
        check.same(what, answer, due);
        check.holds(what + " changes nothing", Runs.trace(pack).equals(Runs.trace(full(cards))));
    }

    /** What is done to a pack. */
    private interface Deed {
        void done(LacedPack pack);
    }

    /** Two packs, both full, are alike behind two deeds. */
    private static void same(Check check, String what, int cards, Deed one, Deed other) {
        LacedPack pack = full(cards);
        LacedPack twin = full(cards);
        one.done(pack);
        other.done(twin);
        check.holds(what + " changes nothing", Runs.trace(pack).equals(Runs.trace(twin)));
    }

    private static void rewrite(LacedPack pack, String text) {
        pack.wipe();
        Runs.write(pack, text);
    }

    /** Laid, laced, with room for more of each. */
    private static LacedPack half(int cards) {
        LacedPack pack = Runs.laid("n" + cards + ";c1,3;x1;l4;");
        pack.lace(1);
        pack.seen(0, 1);
        pack.keep();
        return pack;
    }

    /** As full as it can be: eight acts, eight that are SEEN, two KEPT, 200 letters. */
    private static LacedPack full(int cards) {
        LacedPack pack = Runs.laid("n" + cards + ";c1,3;x1;l4;");
        for (int time = 0; time < 8; time++) {
            pack.cut(1);
            pack.seen(1, 0);
            pack.keep();
            pack.lace(time % 5);
        }
        rewrite(pack, "c0,1;".repeat(40));
        return pack;
    }
}
