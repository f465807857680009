/** Each promise by hand-made answers: ordinary numbers, the edges that the document names, wrong ones. */
public final class PromiseTest {
    private static final int BAD = -1, NO = -2, FULL = -3, NONE = -4;
    private static final Check CHECK = new Check();

    public static void main(String[] args) {
        newObject();
        write();
        wipe();
        fault();
        lay();
        atAndWhere();
        colour();
        lace();
        cutAndTurn();
        deal();
        undo();
        again();
        round();
        rounds();
        bring();
        beside();
        orders();
        rising();
        pairs();
        sure();
        seenAndForget();
        done();
        likely();
        dealing();
        keepAndBack();
        count();
        CHECK.end();
    }

    private static void same(String what, long got, long due) {
        CHECK.same(what, got, due);
    }

    private static void order(String what, LacedPack pack, String due) {
        CHECK.order(what, pack, due);
    }

    private static void faultOf(String text, int due) {
        CHECK.faultOf(text, due);
    }

    private static String times(String part, int count) {
        return part.repeat(count);
    }

    // promise 1
    private static void newObject() {
        LacedPack pack = new LacedPack();
        order("new", pack, "0 1 2 3 4 5 6 7 8 9");
        int[] due = {10, 3, 0, 0, 0, 0};
        for (int what = 0; what < due.length; what++) {
            same("new: count(" + what + ")", pack.count(what), due[what]);
        }
        int[] colours = {0, 1, 0, 0, 2, 1, 0, 1, 0, 1};
        for (int card = 0; card < colours.length; card++) {
            same("new: colour(" + card + ")", pack.colour(card), colours[card]);
        }
        same("new: deal()", pack.deal(), 4);
        order("new: dealt", pack, "4 6 9 2 0 7 5 3 1 8");
    }

    // promise 2
    private static void write() {
        LacedPack pack = new LacedPack();
        same("write(31)", pack.write(31), BAD);
        same("write(127)", pack.write(127), BAD);
        same("write(-1)", pack.write(-1), BAD);
        same("write(110 + 65536)", pack.write(110 + 65536), BAD);
        for (int length = 1; length <= 200; length++) {
            same("letter " + length, pack.write(length % 2 == 0 ? 32 : 126), length);
        }
        same("the 201st letter", pack.write(32), FULL);
        same("a bad 201st letter", pack.write(31), BAD);
        same("count(5) when full", pack.count(5), 200);
    }

    // promise 3
    private static void wipe() {
        LacedPack pack = new LacedPack();
        same("wipe() of nothing", pack.wipe(), 0);
        Runs.write(pack, "n17;");
        same("wipe()", pack.wipe(), 4);
        same("fault() behind wipe()", pack.fault(), NONE);
        Runs.write(pack, "n3;");
        same("lay() behind wipe()", pack.lay(), 3);
        pack.lace(0);
        pack.wipe();
        order("wipe() leaves the pack", pack, "0 2 1");
    }

    // promise 4
    private static void fault() {
        for (String good : new String[] {"", "n2;", "n16;", "n02;", "n2;n16;c15,3;", "c7,0;", "c00,03;", "l0;l4;x7;",
            "c0,0;c0,1;", "l1;c1,1;x0;c2,3;", "n12;x11;", times("l0;", 16), times("x0;", 8) + times("l4;", 8)}) {
            faultOf(good, NONE);
        }
        for (String bad : new String[] {"n", "n;", "n1;", "n17;", "n0;", "n002;", "n4,4;", "n4", "n4,", "n 4;", "N4;",
            "c8,0;", "c0,4;", "c0;", "c0,;", "c,0;", "c0,0,0;", "c0,0", "c0 0;", "l5;", "l;", "l0,0;", "x8;", "x;",
            "x7,0;", "a1;", ";", ",", "0;", " ", "l-1;", "n99;", "c99,0;"}) {
            faultOf(bad, 0);
            faultOf("n8;" + bad, 3);
            faultOf(bad + "l0;", 0);
        }
        faultOf("n8;;", 3);
        faultOf("l0;n4;", 3);
        faultOf("c0,0;n4;", 5);
        faultOf("x0;n4;", 3);
        faultOf("n16;n4;c4,0;", 7);
        faultOf("n4;n16;c4,0;x15;l3;", NONE);
        faultOf("n4;x4;", 3);
        faultOf(times("l0;", 17), 48);
        faultOf(times("x1;", 16) + "c1,1;l0;", 53);
        faultOf(times("x1;", 16) + "c1,1;", NONE);
    }

    // promise 5
    private static void lay() {
        LacedPack pack = new LacedPack();
        same("lay() of an empty text", pack.lay(), NO);
        pack.seen(1, 1);
        pack.lace(1);
        pack.keep();
        Runs.write(pack, "n6;c1,3;l2");
        same("lay() of a fault", pack.lay(), NO);
        order("as it was behind NO", pack, "5 0 6 1 7 2 8 3 9 4");
        same("acts behind NO", pack.count(1), 3);
        same("SEEN behind NO", pack.count(2), 1);
        same("UNDONE behind NO", pack.count(3), 1);
        same("KEPT behind NO", pack.count(4), 1);
        same("colour behind NO", pack.colour(1), 1);
        pack.write(';');
        same("lay()", pack.lay(), 6);
        order("laid", pack, "0 1 2 3 4 5");
        int[] due = {6, 1, 0, 0, 0, 11};
        for (int what = 0; what < due.length; what++) {
            same("laid: count(" + what + ")", pack.count(what), due[what]);
        }
        same("laid: colour(1)", pack.colour(1), 3);
        same("laid: colour(3)", pack.colour(3), 1);
        same("laid: at(6)", pack.at(6), BAD);
        pack.wipe();
        Runs.write(pack, "l1;");
        same("lay() without n", pack.lay(), 8);
        same("laid: colour(1) anew", pack.colour(1), 1);
        pack.wipe();
        Runs.write(pack, "n5;n3;");
        same("the last n counts", pack.lay(), 3);
        same("no acts", pack.count(1), 0);
    }

    // promises 6 and 7
    private static void atAndWhere() {
        LacedPack pack = Runs.laid("n5;");
        pack.lace(1);
        int[] due = {2, 0, 3, 1, 4};
        for (int place = 0; place < 5; place++) {
            same("at(" + place + ")", pack.at(place), due[place]);
            same("where(" + due[place] + ")", pack.where(due[place]), place);
        }
        for (int wrong : new int[] {-1, 5, 16, Integer.MIN_VALUE, Integer.MAX_VALUE}) {
            same("at(" + wrong + ")", pack.at(wrong), BAD);
            same("where(" + wrong + ")", pack.where(wrong), BAD);
        }
    }

    // promise 8
    private static void colour() {
        LacedPack pack = Runs.laid("n16;c15,0;c0,3;c2,1;c2,2;");
        int[] due = {3, 1, 2, 1, 0, 1, 0, 1, 0, 1, 0, 1, 0, 1, 0, 0};
        for (int card = 0; card < 16; card++) {
            same("colour(" + card + ")", pack.colour(card), due[card]);
        }
        pack.turn();
        same("a colour is its card's", pack.colour(0), 3);
        same("colour(16)", pack.colour(16), BAD);
        same("colour(-1)", pack.colour(-1), BAD);
    }

    // promise 9
    private static void lace() {
        String[] even = {"0 3 1 4 2 5", "3 0 4 1 5 2", "0 5 1 4 2 3", "0 2 4 1 5 3", "5 0 4 1 3 2"};
        String[] odd = {"0 4 1 5 2 6 3", "3 0 4 1 5 2 6", "0 6 1 5 2 4 3", "0 2 4 6 3 1 5", "6 0 5 1 4 2 3"};
        for (int kind = 0; kind < 5; kind++) {
            LacedPack pack = Runs.laid("n6;");
            same("top by " + kind, pack.lace(kind), even[kind].charAt(0) - '0');
            order("laced by " + kind, pack, even[kind]);
            pack = Runs.laid("n7;");
            same("top by " + kind, pack.lace(kind), odd[kind].charAt(0) - '0');
            order("laced by " + kind, pack, odd[kind]);
        }
        LacedPack pack = new LacedPack();
        same("lace(-1)", pack.lace(-1), BAD);
        same("lace(5)", pack.lace(5), BAD);
        same("no act by BAD", pack.count(3), 0);
    }

    // promises 10 and 11
    private static void cutAndTurn() {
        LacedPack pack = Runs.laid("n5;");
        same("cut(2)", pack.cut(2), 2);
        order("cut(2)", pack, "2 3 4 0 1");
        same("cut(0)", pack.cut(0), 2);
        same("cut(4)", pack.cut(4), 1);
        order("cut(4)", pack, "1 2 3 4 0");
        same("cut(5)", pack.cut(5), BAD);
        same("cut(-1)", pack.cut(-1), BAD);
        same("acts", pack.count(3), 3);
        same("turn()", pack.turn(), 0);
        order("turn()", pack, "0 4 3 2 1");
        pack = Runs.laid("n2;");
        same("turn() of two", pack.turn(), 1);
        order("turn() of two", pack, "1 0");
    }

    // promise 12
    private static void deal() {
        LacedPack pack = Runs.laid("n4;x1;l0;c0,1;x3;");
        same("deal()", pack.deal(), 0);
        order("deal()", pack, "0 1 3 2");
        same("one act", pack.count(3), 1);
        same("undone at once", pack.undo(), 0);
        order("undone at once", pack, "0 1 2 3");
        pack = Runs.laid("n4;c1,1;");
        same("a deal of nothing", pack.deal(), 0);
        same("is an act", pack.count(3), 1);
    }

    // promise 13
    private static void undo() {
        LacedPack pack = new LacedPack();
        same("undo() of nothing", pack.undo(), NO);
        for (int i = 0; i < 9; i++) {
            pack.cut(1);
        }
        same("the last eight", pack.count(3), 8);
        for (int left = 7; left >= 0; left--) {
            same("undo()", pack.undo(), left);
            same("top", pack.at(0), left + 1);
        }
        same("undo() of the ninth", pack.undo(), NO);
        same("top behind NO", pack.at(0), 1);
        pack.cut(0);
        same("such by which nothing becomes another", pack.undo(), 0);
    }

    // promise 14
    private static void again() {
        LacedPack pack = Runs.laid("n8;");
        int[] due = {3, 6, 4, 6, 4, 1};
        for (int kind = 0; kind < due.length; kind++) {
            same("again(" + kind + ")", pack.again(kind), due[kind]);
        }
        pack.lace(1);
        pack.turn();
        same("from now on", pack.again(1), 6);
        same("again(6)", pack.again(6), BAD);
        same("again(-1)", pack.again(-1), BAD);
        same("by cuts", Runs.laid("n15;x6;").again(5), 5);
        same("rounds of 1 and 5", Runs.laid("n7;x1;l4;").again(5), 5);
        same("no act left over", pack.count(3), 2);
    }

    // promise 15
    private static void round() {
        LacedPack pack = Runs.laid("n8;");
        int[] due = {1, 3, 3, 3, 3, 3, 3, 1};
        for (int place = 0; place < 8; place++) {
            same("round(" + place + ", 0)", pack.round(place, 0), due[place]);
        }
        pack.lace(4);
        same("from now on", pack.round(0, 0), 1);
        same("round(8, 0)", pack.round(8, 0), BAD);
        same("round(-1, 0)", pack.round(-1, 0), BAD);
        same("round(0, 5)", pack.round(0, 5), BAD);
        same("round(0, -1)", pack.round(0, -1), BAD);
    }

    // promise 16
    private static void rounds() {
        LacedPack pack = Runs.laid("n8;");
        int[] due = {4, 2, 4, 5, 2};
        for (int kind = 0; kind < due.length; kind++) {
            same("rounds(" + kind + ")", pack.rounds(kind), due[kind]);
        }
        same("rounds(5)", pack.rounds(5), BAD);
        same("rounds(-1)", pack.rounds(-1), BAD);
    }

    // promise 17
    private static void bring() {
        LacedPack pack = Runs.laid("n8;");
        same("0 to 5", pack.bring(0, 5, -1), 3);
        int[] due = {1, 0, 1, NONE, NONE};
        for (int k = 0; k < due.length; k++) {
            same("0 to 5 by " + k, pack.bring(0, 5, k), due[k]);
        }
        same("there already", pack.bring(3, 3, -1), 0);
        same("no first", pack.bring(3, 3, 0), NONE);
        pack.lace(1);
        same("from now on", pack.bring(4, 0, -1), 0);
        same("far k", pack.bring(0, 5, Integer.MAX_VALUE), NONE);
        same("k = -2", pack.bring(0, 5, -2), BAD);
        same("card 8", pack.bring(8, 5, -1), BAD);
        same("place 8", pack.bring(0, 8, -1), BAD);
        same("card -1", pack.bring(-1, 5, 0), BAD);
        same("place -1", pack.bring(0, -1, 0), BAD);
        same("OUT does not bring it", Runs.laid("n2;").bring(0, 1, 0), 1);
        // OUT OUT OUT IN and IN OUT IN OUT both bring it
        pack = Runs.laid("n9;");
        same("two ways", pack.bring(2, 6, -1), 4);
        int[] first = {0, 0, 0, 1, NONE};
        for (int k = 0; k < first.length; k++) {
            same("of two ways, by " + k, pack.bring(2, 6, k), first[k]);
        }
    }

    // promise 18
    private static void beside() {
        LacedPack pack = Runs.laid("n8;");
        same("at once", pack.beside(3, 4), 0);
        same("the other way", pack.beside(4, 3), 0);
        same("0 and 4", pack.beside(0, 4), 1);
        same("0 and 2", pack.beside(0, 2), 2);
        pack = Runs.laid("n16;");
        same("never", pack.beside(3, 6), NONE);
        same("alike", pack.beside(3, 3), BAD);
        same("alike and wrong", pack.beside(16, 16), BAD);
        same("16", pack.beside(16, 0), BAD);
        same("-1", pack.beside(0, -1), BAD);
    }

    // promise 19
    private static void orders() {
        LacedPack pack = Runs.laid("n8;");
        int[] due = {1, 3, 7, 14, 20, 24, 24};
        for (int n = 0; n < due.length; n++) {
            same("orders(" + n + ")", pack.orders(n), due[n]);
        }
        same("orders(7)", pack.orders(7), BAD);
        same("orders(-1)", pack.orders(-1), BAD);
    }

    // promise 20
    private static void rising() {
        LacedPack pack = Runs.laid("n8;");
        same("in order", pack.rising(), 1);
        pack.lace(0);
        same("laced once", pack.rising(), 2);
        pack.lace(0);
        same("laced twice", pack.rising(), 4);
        pack.undo();
        pack.undo();
        pack.turn();
        same("turned over", pack.rising(), 8);
    }

    // promise 21
    private static void pairs() {
        LacedPack pack = Runs.laid("n7;c1,0;c6,3;");
        same("the odd one is in no pair", pack.pairs(), 2);
        pack.cut(1);
        same("behind a cut", pack.pairs(), 2);
        pack.cut(6);
        pack.turn();
        same("from below", pack.pairs(), 2);
        same("two", Runs.laid("n2;").pairs(), 1);
        same("two alike", Runs.laid("n2;c0,1;").pairs(), 0);
        same("three", Runs.laid("n3;").pairs(), 1);
    }

    // promise 22
    private static void sure() {
        LacedPack pack = Runs.laid("n8;");
        for (int c = 0; c <= 8; c++) {
            same("unlike in turn: above for " + c, pack.sure(c, 0), 1);
            same("unlike in turn: below for " + c, pack.sure(c, 1), 1);
        }
        // 0 0 1 1 by its halves: 0 0 and 1 1 may fall in six ways, two of them spoil both pairs
        pack = Runs.laid("n4;c0,0;c1,0;c2,1;c3,1;");
        same("halves: above", pack.sure(2, 0), 2);
        same("halves: below", pack.sure(2, 1), 3);
        same("none: above", pack.sure(0, 0), 0);
        same("none: below", pack.sure(0, 1), 1);
        // 0 / 1 0 (the last one is in no pair): 0 1 0, 1 0 0, 1 0 0
        same("odd: above", Runs.laid("n3;").sure(1, 0), 1);
        // 0 / 0 1: 0 0 1 twice, 0 1 0 once
        pack = Runs.laid("n3;c1,0;c2,1;");
        same("odd: above", pack.sure(1, 0), 1);
        same("odd: below", pack.sure(1, 1), 3);
        same("sure(4, 0)", pack.sure(4, 0), BAD);
        same("sure(-1, 0)", pack.sure(-1, 0), BAD);
        same("sure(0, 2)", pack.sure(0, 2), BAD);
        same("sure(0, -1)", pack.sure(0, -1), BAD);
    }

    // promises 23 and 24
    private static void seenAndForget() {
        LacedPack pack = new LacedPack();
        same("forget() of nothing", pack.forget(), 0);
        same("seen(10, 0)", pack.seen(10, 0), BAD);
        same("seen(0, 10)", pack.seen(0, 10), BAD);
        same("seen(-1, 0)", pack.seen(-1, 0), BAD);
        same("seen(0, -1)", pack.seen(0, -1), BAD);
        for (int i = 0; i < 8; i++) {
            same("seen", pack.seen(i % 2, i), i + 1);
        }
        same("the ninth", pack.seen(0, 0), FULL);
        same("a bad ninth", pack.seen(0, 10), BAD);
        same("count(2)", pack.count(2), 8);
        same("forget()", pack.forget(), 8);
        same("seen anew", pack.seen(9, 9), 1);
    }

    // promise 25
    private static void done() {
        LacedPack pack = Runs.laid("n6;");
        same("nothing seen", pack.done(0), 63);
        same("nothing seen, cuts", pack.done(1), 63);
        pack.turn();
        pack.cut(3);
        same("as it was laid", pack.done(1), 63);
        pack.seen(5, 0);
        same("5 on top", pack.done(0), 1 << 4 | 1 << 5);
        same("5 on top, cuts", pack.done(1), 1 << 5);
        pack.seen(0, 5);
        same("and 0 below", pack.done(0), 1 << 5);
        same("and 0 below, cuts", pack.done(1), 0);
        pack.forget();
        pack.seen(0, 0);
        same("0 on top", pack.done(0), 1 | 1 << 2 | 1 << 3);
        same("0 on top, cuts", pack.done(1), 1);
        pack.seen(1, 0);
        same("what can't be", pack.done(0), 0);
        same("done(2)", pack.done(2), BAD);
        same("done(-1)", pack.done(-1), BAD);
    }

    // promise 26
    private static void likely() {
        LacedPack pack = Runs.laid("n8;");
        same("0 stays by OUT: above", pack.likely(0, 0, 5, 10, 0), 1);
        same("0 stays by OUT: below", pack.likely(0, 0, 5, 10, 1), 1);
        same("never by IN: above", pack.likely(0, 0, 1, 0, 0), 0);
        same("never by IN: below", pack.likely(0, 0, 1, 0, 1), 1);
        same("0 goes down by IN: above", pack.likely(0, 1, 1, 4, 0), 3);
        same("0 goes down by IN: below", pack.likely(0, 1, 1, 4, 1), 5);
        same("none at all: above", pack.likely(3, 3, 0, 5, 0), 1);
        same("nine of ten, five times: above", pack.likely(0, 0, 5, 9, 0), 15_129);
        same("nine of ten, five times: below", pack.likely(0, 0, 5, 9, 1), 25_000);
        pack.turn();
        same("from now on", pack.likely(7, 0, 1, 10, 0), 1);
        same("n = 6", pack.likely(0, 0, 6, 5, 0), BAD);
        same("n = -1", pack.likely(0, 0, -1, 5, 0), BAD);
        same("x = 11", pack.likely(0, 0, 1, 11, 0), BAD);
        same("x = -1", pack.likely(0, 0, 1, -1, 0), BAD);
        same("part = 2", pack.likely(0, 0, 1, 5, 2), BAD);
        same("part = -1", pack.likely(0, 0, 1, 5, -1), BAD);
        same("card 8", pack.likely(8, 0, 1, 5, 0), BAD);
        same("place 8", pack.likely(0, 8, 1, 5, 0), BAD);
    }

    // promise 27
    private static void dealing() {
        LacedPack pack = Runs.laid("n8;");
        // x is 1, DRAW 0: OUT
        same("0 once: top", pack.dealing(0, 1, 0), 0);
        same("0 once: same", pack.dealing(0, 1, 1), 2);
        same("0 once: rising", pack.dealing(0, 1, 2), 2);
        // x is 7920, its square modulo 65521 is 22803, DRAW 11401: 5 by modulo 7, CUT at 1425 modulo 8
        same("1 once: top", pack.dealing(1, 1, 0), 1);
        same("1 once: same", pack.dealing(1, 1, 1), 0);
        same("1 once: rising", pack.dealing(1, 1, 2), 2);
        // x is 15839, its square modulo 65521 is 59533, DRAW 29766: MILK
        same("2 once: top", pack.dealing(2, 1, 0), 0);
        same("2 once: same", pack.dealing(2, 1, 1), 2);
        same("2 once: rising", pack.dealing(2, 1, 2), 4);
        // x is 31677, its square modulo 65521 is 43735, DRAW 21867: 6 by modulo 7, TURNED OVER
        same("4 once: top", pack.dealing(4, 1, 0), 7);
        same("4 once: rising", pack.dealing(4, 1, 2), 8);
        order("nothing changes", pack, "0 1 2 3 4 5 6 7");
        same("no act", pack.count(3), 0);
        same("z = -1", pack.dealing(-1, 1, 0), BAD);
        same("z = 10000", pack.dealing(10000, 1, 0), BAD);
        same("n = 0", pack.dealing(0, 0, 0), BAD);
        same("n = 61", pack.dealing(0, 61, 0), BAD);
        same("what = 3", pack.dealing(0, 1, 3), BAD);
        same("what = -1", pack.dealing(0, 1, -1), BAD);
        CHECK.holds("the far end", pack.dealing(9999, 60, 0) >= 0);
    }

    // promises 28 and 29
    private static void keepAndBack() {
        LacedPack pack = new LacedPack();
        same("back() of nothing", pack.back(), NO);
        same("keep()", pack.keep(), 1);
        pack.turn();
        same("keep()", pack.keep(), 2);
        pack.lace(2);
        same("a third", pack.keep(), FULL);
        same("back()", pack.back(), 1);
        order("back()", pack, "9 8 7 6 5 4 3 2 1 0");
        same("nothing is UNDONE", pack.undo(), NO);
        same("keep() again", pack.keep(), 2);
        same("back()", pack.back(), 1);
        pack.lace(1);
        same("back()", pack.back(), 0);
        order("back()", pack, "0 1 2 3 4 5 6 7 8 9");
        pack.lace(1);
        same("back() of nothing", pack.back(), NO);
        same("UNDONE stays behind NO", pack.count(3), 1);
    }

    // promise 30
    private static void count() {
        LacedPack pack = Runs.laid("n9;l1;x8;");
        pack.seen(0, 0);
        pack.seen(0, 0);
        pack.turn();
        pack.deal();
        pack.cut(1);
        pack.keep();
        int[] due = {9, 2, 2, 3, 1, 9};
        for (int what = 0; what < due.length; what++) {
            same("count(" + what + ")", pack.count(what), due[what]);
        }
        same("count(6)", pack.count(6), BAD);
        same("count(-1)", pack.count(-1), BAD);
    }
}
