/** The sentences on edges in section 4 and in promises 23 to 30: what was seen, chances, dealings, packs kept. */
public final class KeptSentencesTest {
    private static final int BAD = -1, NO = -2, FULL = -3;

    public static void main(String[] args) {
        Sentences all = new Sentences();
        seen(all);
        done(all);
        likely(all);
        dealing(all);
        kept(all);
        count(all);
        all.end();
    }

    private static void seen(Sentences all) {
        all.told("SEEN (8 at most). Promise 23: how many. FULL", check -> {
            LacedPack pack = Runs.laid("n16;");
            for (int many = 1; many <= 8; many++) {
                check.same("seen, the " + many + "th", pack.seen(16 - many, many - 1), many);
            }
            check.same("the ninth", pack.seen(7, 8), FULL);
            check.same("the tenth", pack.seen(7, 8), FULL);
            check.same("count(2)", pack.count(2), 8);
            check.same("the ninth is not SEEN", pack.done(0), 1 << 5);
        });
        all.told("SEEN: the eighth counts like the first", check -> {
            LacedPack pack = Runs.laid("n2;");
            for (int many = 1; many < 8; many++) {
                pack.seen(0, 0);
            }
            check.same("seven of one kind", pack.done(1), 1);
            pack.seen(0, 1);
            check.same("and one of another", pack.done(1), 0);
        });
        all.told("Promise 23: BAD (CARDS, PLACES 0 to N less 1)", check -> {
            for (int n = 2; n <= 16; n++) {
                LacedPack pack = Runs.laid("n" + n + ";");
                check.same("seen(N, 0)", pack.seen(n, 0), BAD);
                check.same("seen(0, N)", pack.seen(0, n), BAD);
                check.same("seen(-1, 0)", pack.seen(-1, 0), BAD);
                check.same("seen(0, -1)", pack.seen(0, -1), BAD);
                check.same("nothing is SEEN", pack.done(1), (1 << n) - 1);
                check.same("seen(N - 1, N - 1)", pack.seen(n - 1, n - 1), 1);
                check.same("seen(0, 0)", pack.seen(0, 0), 2);
            }
        });
        all.told("Promise 24: Nothing is SEEN: how many were", check -> {
            LacedPack pack = Runs.laid("n16;");
            check.same("none", pack.forget(), 0);
            for (int i = 0; i < 8; i++) {
                pack.seen(15, 0);
            }
            check.same("eight", pack.forget(), 8);
            check.same("done(0) behind it", pack.done(0), 63);
            check.same("done(1) behind it", pack.done(1), 65535);
            check.same("again", pack.forget(), 0);
            check.same("room for one", pack.seen(0, 0), 1);
            check.same("one", pack.forget(), 1);
        });
    }

    private static void done(Sentences all) {
        all.told("DONE when nothing is SEEN: all", check -> {
            for (int n = 2; n <= 16; n++) {
                LacedPack pack = Runs.laid("n" + n + ";");
                check.same("KINDS and TURNING OVER", pack.done(0), 63);
                check.same("CUTS (bits of 0 to N less 1)", pack.done(1), (1 << n) - 1);
            }
        });
        all.told("DONE when what is SEEN can't be: none", check -> {
            LacedPack pack = Runs.laid("n16;");
            pack.seen(3, 3);
            pack.seen(4, 3);
            check.same("KINDS", pack.done(0), 0);
            check.same("CUTS", pack.done(1), 0);
        });
        all.told("KINDS (bits 0 to 4) of LACING by which all that is SEEN would be so, and 5, if by TURNING OVER", check -> {
            bitsOf(check, "n16;", 0, 1, 1 << 1 | 1 << 4, 1 << 15);
            bitsOf(check, "n16;", 0, 0, 1 | 1 << 2 | 1 << 3, 1);
            bitsOf(check, "n16;", 15, 15, 1 | 1 << 3, 1);
            bitsOf(check, "n16;", 8, 1, 1, 1 << 7);
            bitsOf(check, "n16;", 8, 0, 1 << 1, 1 << 8);
            bitsOf(check, "n16;", 15, 1, 1 << 2, 1 << 14);
            bitsOf(check, "n16;", 1, 8, 1 << 3, 1 << 9);
            bitsOf(check, "n16;", 14, 2, 1 << 4, 1 << 12);
            bitsOf(check, "n16;", 0, 15, 1 << 5, 1 << 1);
        });
        all.told("CUTS (bits of 0 to N less 1) by which it would: the last of them", check -> {
            bitsOf(check, "n16;", 15, 0, 1 << 4 | 1 << 5, 1 << 15);
            bitsOf(check, "n2;", 1, 0, 1 << 1 | 1 << 4 | 1 << 5, 1 << 1);
        });
        all.told("behind one act, done to the PACK as it was LAID", check -> {
            LacedPack pack = Runs.laid("n16;");
            pack.turn();
            pack.deal();
            pack.seen(15, 0);
            check.same("KINDS", pack.done(0), 1 << 4 | 1 << 5);
            check.same("CUTS", pack.done(1), 1 << 15);
            pack.lace(1);
            pack.undo();
            pack.keep();
            pack.back();
            check.same("KINDS, whatever is done", pack.done(0), 1 << 4 | 1 << 5);
        });
        all.told("Promise 25: DONE (what = 0), CUTS (1), as bits. BAD", check -> {
            LacedPack pack = Runs.laid("n16;");
            check.same("done(-1)", pack.done(-1), BAD);
            check.same("done(0)", pack.done(0), 63);
            check.same("done(1)", pack.done(1), 65535);
            check.same("done(2)", pack.done(2), BAD);
        });
    }

    private static void bitsOf(Check check, String text, int card, int place, int kinds, int cuts) {
        LacedPack pack = Runs.laid(text);
        pack.seen(card, place);
        String what = text + " " + card + " in " + place;
        check.same(what + " by KINDS", pack.done(0), kinds);
        check.same(what + " by CUTS", pack.done(1), cuts);
    }

    private static void likely(Sentences all) {
        all.told("LIKELY for n (0 to 5) LACINGS: for none", check -> {
            LacedPack pack = Runs.laid("n16;");
            pack.turn();
            for (int x = 0; x <= 10; x++) {
                check.same("where it lies: above", pack.likely(15, 0, 0, x, 0), 1);
                check.same("where it lies: below", pack.likely(15, 0, 0, x, 1), 1);
                check.same("elsewhere: above", pack.likely(0, 0, 0, x, 0), 0);
                check.same("elsewhere: below", pack.likely(0, 0, 0, x, 1), 1);
            }
        });
        all.told("LIKELY for n (0 to 5) LACINGS: for five", check -> {
            likelyIs(check, "n2;", 0, 0, 9, 4149, 6250);
            likelyIs(check, "n8;", 0, 0, 9, 15_129, 25_000);
            likelyIs(check, "n8;", 0, 7, 1, 729, 25_000);
            likelyIs(check, "n16;", 0, 0, 9, 29_889, 50_000);
            likelyIs(check, "n16;", 0, 14, 1, 29_889, 50_000);
            likelyIs(check, "n16;", 0, 15, 3, 7203, 50_000);
        });
        all.told("each OUT by x (0 to 10) of ten, else IN: never, ever", check -> {
            likelyIs(check, "n16;", 0, 14, 0, 1, 1);
            likelyIs(check, "n16;", 0, 0, 0, 0, 1);
            likelyIs(check, "n16;", 0, 0, 10, 1, 1);
            likelyIs(check, "n16;", 0, 14, 10, 0, 1);
            likelyIs(check, "n8;", 0, 4, 0, 1, 1);
        });
        all.told("in lowest terms; all PLACES together make one", check -> {
            LacedPack pack = Runs.laid("n15;");
            for (int x = 0; x <= 10; x++) {
                long sum = 0;
                for (int place = 0; place < 15; place++) {
                    int below = pack.likely(3, place, 5, x, 1);
                    check.same("ten, five times, by what is below", 100_000 % below, 0);
                    sum += (long) pack.likely(3, place, 5, x, 0) * (100_000 / below);
                }
                check.same("the sum for " + x, sum, 100_000);
            }
        });
        all.told("Promise 26: above (part = 0), below (1). BAD", check -> {
            for (int n = 2; n <= 16; n++) {
                LacedPack pack = Runs.laid("n" + n + ";");
                check.same("all at their ends", pack.likely(n - 1, n - 1, 0, 10, 1), 1);
                check.same("card N", pack.likely(n, 0, 1, 5, 0), BAD);
                check.same("card -1", pack.likely(-1, 0, 1, 5, 0), BAD);
                check.same("place N", pack.likely(0, n, 1, 5, 0), BAD);
                check.same("place -1", pack.likely(0, -1, 1, 5, 0), BAD);
                check.same("n = 6", pack.likely(0, 0, 6, 5, 0), BAD);
                check.same("n = -1", pack.likely(0, 0, -1, 5, 0), BAD);
                check.same("x = 11", pack.likely(0, 0, 1, 11, 0), BAD);
                check.same("x = -1", pack.likely(0, 0, 1, -1, 0), BAD);
                check.same("part = 2", pack.likely(0, 0, 1, 5, 2), BAD);
                check.same("part = -1", pack.likely(0, 0, 1, 5, -1), BAD);
            }
        });
    }

    private static void likelyIs(Check check, String text, int card, int place, int x, int above, int below) {
        LacedPack pack = Runs.laid(text);
        String what = text + " " + card + " in " + place + " by " + x;
        check.same(what + ": above", pack.likely(card, place, 5, x, 0), above);
        check.same(what + ": below", pack.likely(card, place, 5, x, 1), below);
    }

    private static void dealing(Sentences all) {
        all.told("A DEALING by z (0 to 9999)", check -> {
            dealingIs(check, "n16;", 0, 1, 0, 2, 2);
            dealingIs(check, "n16;", 9999, 1, 0, 2, 8);
            dealingIs(check, "n8;", 9999, 1, 0, 3, 4);
            check.same("z = -1", Runs.laid("n16;").dealing(-1, 1, 0), BAD);
            check.same("z = 10000", Runs.laid("n16;").dealing(10_000, 1, 0), BAD);
        });
        all.told("A DEALING of n (1 to 60) times (the time, 0 first)", check -> {
            dealingIs(check, "n16;", 0, 2, 0, 2, 9);
            dealingIs(check, "n16;", 0, 59, 11, 1, 7);
            dealingIs(check, "n16;", 0, 60, 15, 1, 10);
            dealingIs(check, "n16;", 9999, 59, 15, 1, 8);
            dealingIs(check, "n16;", 9999, 60, 15, 2, 8);
            dealingIs(check, "n8;", 9999, 60, 1, 2, 4);
            dealingIs(check, "n2;", 0, 60, 0, 2, 1);
            dealingIs(check, "n2;", 0, 59, 1, 0, 2);
            check.same("n = 0", Runs.laid("n16;").dealing(0, 0, 0), BAD);
            check.same("n = -1", Runs.laid("n16;").dealing(0, -1, 0), BAD);
            check.same("n = 61", Runs.laid("n16;").dealing(0, 61, 0), BAD);
        });
        all.told("if DRAW modulo 7 is 0 to 4, it is LACED by that KIND, if 5, CUT, 6, TURNED OVER", check -> {
            int[] zOfKinds = {0, 16, 2, 21, 7};
            for (int kind = 0; kind <= 4; kind++) {
                LacedPack pack = Runs.laid("n16;");
                int rising = pack.dealing(zOfKinds[kind], 1, 2);
                int same = pack.dealing(zOfKinds[kind], 1, 1);
                check.same("the top by " + kind, pack.dealing(zOfKinds[kind], 1, 0), pack.lace(kind));
                check.same("rising rows by " + kind, rising, pack.rising());
                check.same("where they lay by " + kind, same, inOrder(pack));
            }
            dealingIs(check, "n16;", 1, 1, 1, 0, 2);
            dealingIs(check, "n16;", 4, 1, 15, 0, 16);
        });
        all.told("CUT at (DRAW by 8, cut) modulo N: at each end, too", check -> {
            dealingIs(check, "n8;", 32, 1, 0, 8, 1);
            dealingIs(check, "n16;", 32, 1, 8, 0, 2);
            dealingIs(check, "n8;", 3, 1, 7, 0, 2);
            dealingIs(check, "n2;", 3, 1, 1, 0, 2);
            dealingIs(check, "n2;", 22, 1, 0, 2, 1);
        });
        all.told("from now on (nothing changes by it)", check -> {
            LacedPack pack = Runs.laid("n16;x1;");
            pack.turn();
            check.same("the top", pack.dealing(4, 1, 0), 0);
            check.same("where they lie now", pack.dealing(4, 1, 1), 0);
            check.same("rising rows", pack.dealing(4, 1, 2), 1);
            check.same("acts", pack.count(3), 1);
            check.order("as before", pack, "15 14 13 12 11 10 9 8 7 6 5 4 3 2 1 0");
        });
        all.told("how many lie where they lie now: none, all", check -> {
            check.same("none", Runs.laid("n16;").dealing(4, 1, 1), 0);
            LacedPack pack = Runs.laid("n8;");
            pack.lace(3);
            check.same("all", pack.dealing(32, 1, 1), 8);
        });
        all.told("Promise 27: on top (what = 0), how many (1), RISING (2). BAD", check -> {
            LacedPack pack = Runs.laid("n16;");
            check.same("what = -1", pack.dealing(0, 1, -1), BAD);
            check.same("what = 3", pack.dealing(0, 1, 3), BAD);
        });
    }

    private static int inOrder(LacedPack pack) {
        int same = 0;
        for (int place = 0; place < pack.count(0); place++) {
            same += pack.at(place) == place ? 1 : 0;
        }
        return same;
    }

    private static void dealingIs(Check check, String text, int z, int n, int top, int same, int rising) {
        LacedPack pack = Runs.laid(text);
        String what = text + " by " + z + " of " + n;
        check.same(what + ": the top", pack.dealing(z, n, 0), top);
        check.same(what + ": where they lay", pack.dealing(z, n, 1), same);
        check.same(what + ": rising rows", pack.dealing(z, n, 2), rising);
    }

    private static void kept(Sentences all) {
        all.told("KEPT: 2 at most. Promise 28: how many. FULL", check -> {
            LacedPack pack = Runs.laid("n5;");
            check.same("keep()", pack.keep(), 1);
            pack.turn();
            check.same("keep()", pack.keep(), 2);
            pack.cut(1);
            check.same("a third", pack.keep(), FULL);
            check.same("a fourth", pack.keep(), FULL);
            check.same("count(4)", pack.count(4), 2);
            check.same("back()", pack.back(), 1);
            check.order("not the third", pack, "4 3 2 1 0");
            check.same("room for one", pack.keep(), 2);
            check.same("and no more", pack.keep(), FULL);
        });
        all.told("KEPT is the order alone", check -> {
            LacedPack pack = Runs.laid("n5;x1;");
            pack.turn();
            pack.keep();
            pack.seen(4, 0);
            pack.write('z');
            pack.lace(0);
            check.same("back()", pack.back(), 0);
            check.same("SEEN as before", pack.count(2), 1);
            check.same("letters as before", pack.count(5), 7);
            check.order("the order", pack, "4 3 2 1 0");
        });
        all.told("Promise 29: As KEPT last (it is KEPT no more then): how many are left. NO", check -> {
            LacedPack pack = Runs.laid("n5;");
            check.same("none is KEPT", pack.back(), NO);
            pack.keep();
            pack.cut(1);
            pack.keep();
            pack.cut(1);
            check.same("the last one", pack.back(), 1);
            check.order("the last one", pack, "1 2 3 4 0");
            check.same("the first one", pack.back(), 0);
            check.order("the first one", pack, "0 1 2 3 4");
            check.same("none is left", pack.back(), NO);
            check.same("count(4)", pack.count(4), 0);
        });
        all.told("Promise 29: nothing is UNDONE then", check -> {
            LacedPack pack = Runs.laid("n5;");
            pack.cut(1);
            pack.keep();
            check.same("keep() leaves what can be UNDONE", pack.count(3), 1);
            pack.cut(1);
            pack.back();
            check.same("count(3)", pack.count(3), 0);
            check.same("undo()", pack.undo(), NO);
            check.order("behind undo()", pack, "1 2 3 4 0");
            pack.cut(1);
            check.same("what is done then can be", pack.undo(), 0);
            check.order("as it came back", pack, "1 2 3 4 0");
        });
        all.told("an act that is UNDONE takes nothing from what is KEPT", check -> {
            LacedPack pack = Runs.laid("n5;");
            pack.turn();
            pack.keep();
            pack.undo();
            check.same("back()", pack.back(), 0);
            check.order("as it was KEPT", pack, "4 3 2 1 0");
        });
    }

    private static void count(Sentences all) {
        all.told("Promise 30: 0 CARDS: least, most", check -> {
            check.same("2", Runs.laid("n2;").count(0), 2);
            check.same("16", Runs.laid("n16;").count(0), 16);
        });
        all.told("Promise 30: 1 acts of a DEAL: as laid, not as told in THE TEXT", check -> {
            LacedPack pack = Runs.laid("l0;x0;");
            Runs.write(pack, "x0;");
            pack.fault();
            check.same("two", pack.count(1), 2);
            pack.lay();
            check.same("three", pack.count(1), 3);
            check.same("none", Runs.laid("n2;").count(1), 0);
            check.same("16", Runs.laid("x0;".repeat(16)).count(1), 16);
        });
        all.told("Promise 30: 2 SEEN, 3 that can be UNDONE, 4 KEPT, 5 letters: none, most", check -> {
            LacedPack pack = new LacedPack();
            int[] most = {10, 3, 8, 8, 2, 200};
            for (int what = 2; what <= 5; what++) {
                check.same("count(" + what + ") at first", pack.count(what), 0);
            }
            for (int time = 0; time < 201; time++) {
                pack.write(' ');
            }
            for (int time = 0; time < 9; time++) {
                pack.seen(0, 0);
                pack.turn();
                pack.keep();
            }
            for (int what = 0; what <= 5; what++) {
                check.same("count(" + what + ") at last", pack.count(what), most[what]);
            }
        });
        all.told("Promise 30: BAD", check -> {
            LacedPack pack = new LacedPack();
            check.same("count(-1)", pack.count(-1), BAD);
            check.same("count(6)", pack.count(6), BAD);
            check.same("the least", pack.count(Integer.MIN_VALUE), BAD);
            check.same("the greatest", pack.count(Integer.MAX_VALUE), BAD);
        });
    }
}
