/** The sentences on edges in section 2 and in promises 6 to 13: where cards lie, what is done to the pack. */
public final class ActSentencesTest {
    private static final int BAD = -1, NO = -2;
    private static final int OUT = 0, IN = 1, MILK = 2, DOWN_AND_UNDER = 3, TURNED = 4;

    public static void main(String[] args) {
        Sentences all = new Sentences();
        places(all);
        lacings(all);
        cutsAndTurns(all);
        deals(all);
        undoing(all);
        all.end();
    }

    private static void places(Sentences all) {
        all.told("PLACES are 0 on top, 1, ..", check -> {
            for (int n = 2; n <= 16; n++) {
                LacedPack pack = Runs.laid("n" + n + ";");
                check.same("the top of " + n, pack.at(0), 0);
                check.same("the bottom of " + n, pack.at(n - 1), n - 1);
                pack.turn();
                check.same("the top of " + n + " turned over", pack.at(0), n - 1);
                check.same("the bottom of " + n + " turned over", pack.at(n - 1), 0);
            }
        });
        all.told("Promise 6: Which CARD lies in a PLACE. BAD (PLACES: 0 to N less 1)", check -> {
            for (int n = 2; n <= 16; n++) {
                LacedPack pack = Runs.laid("n" + n + ";");
                check.same("at(N - 1)", pack.at(n - 1), n - 1);
                check.same("at(N)", pack.at(n), BAD);
                check.same("at(-1)", pack.at(-1), BAD);
            }
        });
        all.told("Promise 7: In which PLACE a CARD lies. BAD (CARDS: 0 to N less 1)", check -> {
            for (int n = 2; n <= 16; n++) {
                LacedPack pack = Runs.laid("n" + n + ";");
                pack.turn();
                check.same("where(0)", pack.where(0), n - 1);
                check.same("where(N - 1)", pack.where(n - 1), 0);
                check.same("where(N)", pack.where(n), BAD);
                check.same("where(-1)", pack.where(-1), BAD);
            }
        });
        all.told("Promise 8: The COLOUR of a CARD. BAD (CARDS: 0 to N less 1)", check -> {
            for (int n = 2; n <= 16; n++) {
                LacedPack pack = Runs.laid("n" + n + ";c0,3;c" + (n - 1) + ",2;");
                check.same("colour(0)", pack.colour(0), 3);
                check.same("colour(N - 1)", pack.colour(n - 1), 2);
                check.same("colour(N)", pack.colour(n), BAD);
                check.same("colour(-1)", pack.colour(-1), BAD);
            }
        });
    }

    private static void lacings(Sentences all) {
        all.told("OUT: the upper half (one more than the lower one, if N is odd)", check -> {
            laced(check, 2, OUT, "0 1");
            laced(check, 3, OUT, "0 2 1");
            laced(check, 4, OUT, "0 2 1 3");
            laced(check, 5, OUT, "0 3 1 4 2");
            laced(check, 15, OUT, "0 8 1 9 2 10 3 11 4 12 5 13 6 14 7");
            laced(check, 16, OUT, "0 8 1 9 2 10 3 11 4 12 5 13 6 14 7 15");
        });
        all.told("IN: the lower half (one more, if N is odd)", check -> {
            laced(check, 2, IN, "1 0");
            laced(check, 3, IN, "1 0 2");
            laced(check, 4, IN, "2 0 3 1");
            laced(check, 5, IN, "2 0 3 1 4");
            laced(check, 15, IN, "7 0 8 1 9 2 10 3 11 4 12 5 13 6 14");
            laced(check, 16, IN, "8 0 9 1 10 2 11 3 12 4 13 5 14 6 15 7");
        });
        all.told("MILK: again and again (at last the one that is left)", check -> {
            laced(check, 2, MILK, "0 1");
            laced(check, 3, MILK, "0 2 1");
            laced(check, 4, MILK, "0 3 1 2");
            laced(check, 5, MILK, "0 4 1 3 2");
            laced(check, 15, MILK, "0 14 1 13 2 12 3 11 4 10 5 9 6 8 7");
            laced(check, 16, MILK, "0 15 1 14 2 13 3 12 4 11 5 10 6 9 7 8");
        });
        all.told("DOWN AND UNDER: again and again, till all are in the new one", check -> {
            laced(check, 2, DOWN_AND_UNDER, "0 1");
            laced(check, 3, DOWN_AND_UNDER, "0 2 1");
            laced(check, 4, DOWN_AND_UNDER, "0 2 1 3");
            laced(check, 5, DOWN_AND_UNDER, "0 2 4 3 1");
            laced(check, 15, DOWN_AND_UNDER, "0 2 4 6 8 10 12 14 3 7 11 1 9 5 13");
            laced(check, 16, DOWN_AND_UNDER, "0 2 4 6 8 10 12 14 1 5 9 13 3 11 7 15");
        });
        all.told("TURNED: as IN, the lower half being turned over first (its bottom card on top)", check -> {
            laced(check, 2, TURNED, "1 0");
            laced(check, 3, TURNED, "2 0 1");
            laced(check, 4, TURNED, "3 0 2 1");
            laced(check, 5, TURNED, "4 0 3 1 2");
            laced(check, 15, TURNED, "14 0 13 1 12 2 11 3 10 4 9 5 8 6 7");
            laced(check, 16, TURNED, "15 0 14 1 13 2 12 3 11 4 10 5 9 6 8 7");
        });
        all.told("Promise 9: LACED: which CARD is on top. BAD (KINDS 0 to 4)", check -> {
            for (int n = 2; n <= 16; n++) {
                LacedPack pack = Runs.laid("n" + n + ";");
                check.same("lace(0)", pack.lace(0), 0);
                check.same("lace(-1)", pack.lace(-1), BAD);
                check.same("lace(5)", pack.lace(5), BAD);
                check.same("acts", pack.count(3), 1);
                pack.undo();
                check.same("lace(4)", pack.lace(4), n - 1);
            }
        });
    }

    private static void laced(Check check, int n, int kind, String due) {
        LacedPack pack = Runs.laid("n" + n + ";");
        int top = pack.lace(kind);
        check.order(n + " laced by " + kind, pack, due);
        check.same("the top of " + n + " laced by " + kind, top, pack.at(0));
    }

    private static void cutsAndTurns(Sentences all) {
        all.told("CUT at C: the upper C CARDS come under the others: none of them", check -> {
            LacedPack pack = Runs.laid("n5;");
            check.same("cut(0)", pack.cut(0), 0);
            check.order("cut(0)", pack, "0 1 2 3 4");
        });
        all.told("CUT at C: the upper C CARDS come under the others: all but one", check -> {
            for (int n = 2; n <= 16; n++) {
                LacedPack pack = Runs.laid("n" + n + ";");
                check.same("cut(N - 1)", pack.cut(n - 1), n - 1);
                check.same("place 1", pack.at(1), 0);
                check.same("the last place", pack.at(n - 1), n - 2);
            }
        });
        all.told("CUT, round and round: two cuts that are N together leave all as it was", check -> {
            LacedPack pack = Runs.laid("n7;");
            for (int c = 1; c < 7; c++) {
                check.same("cut(" + c + ")", pack.cut(c), c);
                check.same("cut(" + (7 - c) + ")", pack.cut(7 - c), 0);
            }
            check.order("at last", pack, "0 1 2 3 4 5 6");
        });
        all.told("Promise 10: CUT: which CARD is on top. BAD (C 0 to N less 1)", check -> {
            for (int n = 2; n <= 16; n++) {
                LacedPack pack = Runs.laid("n" + n + ";");
                check.same("cut(N - 1)", pack.cut(n - 1), n - 1);
                check.same("cut(N)", pack.cut(n), BAD);
                check.same("cut(-1)", pack.cut(-1), BAD);
                check.same("acts", pack.count(3), 1);
            }
        });
        all.told("It can be TURNED OVER (the last is first then)", check -> {
            for (int n = 2; n <= 16; n++) {
                LacedPack pack = Runs.laid("n" + n + ";");
                check.same("turn()", pack.turn(), n - 1);
                for (int place = 0; place < n; place++) {
                    check.same("place " + place, pack.at(place), n - 1 - place);
                }
                check.same("turn() again", pack.turn(), 0);
            }
            LacedPack pack = Runs.laid("n5;");
            pack.turn();
            check.order("an odd one", pack, "4 3 2 1 0");
        });
    }

    private static void deals(Sentences all) {
        all.told("A DEAL is all that is told of l, x: none", check -> {
            LacedPack pack = Runs.laid("n4;c0,3;");
            pack.turn();
            check.same("deal()", pack.deal(), 3);
            check.order("dealt", pack, "3 2 1 0");
            check.same("deal() can be undone", pack.undo(), 1);
        });
        all.told("A DEAL is all that is told of l, x in a row: the first one first", check -> {
            LacedPack pack = Runs.laid("n5;x1;l4;c0,3;x2;");
            check.same("deal()", pack.deal(), 4);
            check.order("dealt", pack, "4 2 3 0 1");
            check.same("deal() again", pack.deal(), 1);
            check.order("dealt again", pack, "1 3 0 4 2");
        });
        all.told("A DEAL is all that is told of l, x: 16 of them", check -> {
            LacedPack pack = Runs.laid("n16;" + "x3;".repeat(15) + "l4;");
            check.same("deal()", pack.deal(), 12);
            check.order("dealt", pack, "12 13 11 14 10 15 9 0 8 1 7 2 6 3 5 4");
        });
        all.told("a DEAL is what was told as it was LAID", check -> {
            LacedPack pack = Runs.laid("n4;x1;");
            pack.wipe();
            Runs.write(pack, "n4;x2;");
            pack.fault();
            check.same("a text that is not laid yet", pack.deal(), 1);
            Runs.write(pack, "z");
            check.same("lay()", pack.lay(), NO);
            check.same("a text that can't be laid", pack.deal(), 2);
        });
    }

    private static void undoing(Sentences all) {
        all.told("UNDONE is the latest of these: of each, lace, cut, turn, deal", check -> {
            LacedPack pack = Runs.laid("n5;x2;");
            pack.lace(1);
            pack.cut(3);
            pack.turn();
            pack.deal();
            check.order("all done", pack, "2 4 1 3 0");
            check.same("deal undone", pack.undo(), 3);
            check.order("deal undone", pack, "3 0 2 4 1");
            check.same("turn undone", pack.undo(), 2);
            check.order("turn undone", pack, "1 4 2 0 3");
            check.same("cut undone", pack.undo(), 1);
            check.order("cut undone", pack, "2 0 3 1 4");
            check.same("lace undone", pack.undo(), 0);
            check.order("lace undone", pack, "0 1 2 3 4");
        });
        all.told("all of one call at once", check -> {
            LacedPack pack = Runs.laid("n5;" + "x1;l4;".repeat(8));
            pack.deal();
            check.same("count(3)", pack.count(3), 1);
            check.same("undo()", pack.undo(), 0);
            check.order("undone", pack, "0 1 2 3 4");
        });
        all.told("such by which nothing becomes another, too", check -> {
            LacedPack pack = Runs.laid("n2;c0,0;");
            pack.lace(0);
            pack.cut(0);
            pack.deal();
            pack.lace(2);
            check.same("count(3)", pack.count(3), 4);
            for (int left = 3; left >= 0; left--) {
                check.same("undo()", pack.undo(), left);
            }
            check.same("one more", pack.undo(), NO);
        });
        all.told("the last 8 can be", check -> {
            LacedPack pack = Runs.laid("n16;");
            for (int acts = 1; acts <= 20; acts++) {
                pack.cut(1);
                check.same("count(3) behind " + acts, pack.count(3), Math.min(acts, 8));
            }
            for (int left = 7; left >= 0; left--) {
                check.same("undo()", pack.undo(), left);
                check.same("top", pack.at(0), (12 + left) % 16);
            }
            check.same("a ninth", pack.undo(), NO);
            check.same("top behind NO", pack.at(0), 12);
        });
        all.told("an act behind one that was undone is the latest", check -> {
            LacedPack pack = Runs.laid("n16;");
            for (int i = 0; i < 9; i++) {
                pack.cut(1);
            }
            pack.undo();
            pack.undo();
            pack.turn();
            check.same("count(3)", pack.count(3), 7);
            check.same("undo()", pack.undo(), 6);
            check.same("top", pack.at(0), 7);
            check.same("undo()", pack.undo(), 5);
            check.same("top", pack.at(0), 6);
        });
        all.told("Promise 13: how many more can be. NO", check -> {
            LacedPack pack = new LacedPack();
            check.same("nothing done yet", pack.undo(), NO);
            pack.turn();
            check.same("the only one", pack.undo(), 0);
            check.same("what was undone", pack.undo(), NO);
            pack.lace(5);
            pack.cut(10);
            check.same("what was refused", pack.undo(), NO);
        });
        all.told("no question and nothing that is told, seen or KEPT is an act", check -> {
            LacedPack pack = Runs.laid("n5;");
            pack.turn();
            pack.keep();
            pack.seen(0, 0);
            pack.forget();
            pack.write('z');
            pack.wipe();
            pack.dealing(4, 1, 0);
            pack.bring(0, 0, 0);
            check.same("undo()", pack.undo(), 0);
            check.order("undone", pack, "0 1 2 3 4");
        });
    }
}
