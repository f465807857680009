/** The sentences on edges in section 3 and in promises 14 to 22: rounds, ways, orders, rows, pairs. */
public final class OrderSentencesTest {
    private static final int BAD = -1, NONE = -4;

    public static void main(String[] args) {
        Sentences all = new Sentences();
        again(all);
        rounds(all);
        bring(all);
        besideAndOrders(all);
        risingAndPairs(all);
        sure(all);
        all.end();
    }

    private static void again(Sentences all) {
        all.told("AGAIN by a KIND: one at least", check -> {
            check.same("two by OUT", Runs.laid("n2;").again(0), 1);
            check.same("two by MILK", Runs.laid("n2;").again(2), 1);
            check.same("two by DOWN AND UNDER", Runs.laid("n2;").again(3), 1);
            check.same("two by IN", Runs.laid("n2;").again(1), 2);
            check.same("two by TURNED", Runs.laid("n2;").again(4), 2);
        });
        all.told("AGAIN by a KIND: till all lie as now", check -> {
            int[] twelve = {10, 12, 11, 28, 10};
            int[] sixteen = {4, 8, 5, 12, 5};
            for (int kind = 0; kind <= 4; kind++) {
                check.same("12 by " + kind, Runs.laid("n12;").again(kind), twelve[kind]);
                LacedPack pack = Runs.laid("n16;");
                pack.lace(4);
                pack.cut(5);
                check.same("16 by " + kind, pack.again(kind), sixteen[kind]);
                int times = 0;
                String now = Runs.order(pack);
                do {
                    pack.lace(kind);
                    times++;
                } while (times < 100 && !Runs.order(pack).equals(now));
                check.same("16 laced by " + kind, times, sixteen[kind]);
            }
        });
        all.told("AGAIN by DEALS likewise (1, if none is told)", check -> {
            check.same("none told", Runs.laid("n16;").again(5), 1);
            LacedPack pack = Runs.laid("n16;c3,3;");
            pack.lace(1);
            check.same("none told, laced", pack.again(5), 1);
            check.same("one by which nothing becomes another", Runs.laid("x0;").again(5), 1);
            check.same("two that are undone by each other", Runs.laid("n5;x2;x3;").again(5), 1);
            check.same("one CUT", Runs.laid("n16;x1;").again(5), 16);
            check.same("one LACING", Runs.laid("n12;l3;").again(5), 28);
        });
        all.told("Promise 14: a KIND (0 to 4), DEALS (5). BAD", check -> {
            LacedPack pack = Runs.laid("n16;x1;");
            check.same("again(-1)", pack.again(-1), BAD);
            check.same("again(0)", pack.again(0), 4);
            check.same("again(4)", pack.again(4), 5);
            check.same("again(5)", pack.again(5), 16);
            check.same("again(6)", pack.again(6), BAD);
        });
    }

    private static void rounds(Sentences all) {
        all.told("ROUND of a PLACE: one at least", check -> {
            for (int n = 2; n <= 16; n++) {
                check.same("the top by OUT", Runs.laid("n" + n + ";").round(0, 0), 1);
            }
            check.same("the bottom by OUT", Runs.laid("n16;").round(15, 0), 1);
            check.same("one between by DOWN AND UNDER", Runs.laid("n16;").round(1, 3), 4);
            check.same("one that stays by DOWN AND UNDER", Runs.laid("n16;").round(15, 3), 1);
        });
        all.told("ROUND of a PLACE: at most through all of them", check -> {
            for (int place = 0; place < 14; place++) {
                check.same("14 by TURNED", Runs.laid("n14;").round(place, 4), 14);
            }
            check.same("2 by IN", Runs.laid("n2;").round(1, 1), 2);
        });
        all.told("ROUND: till the CARD that lies there lies there again (from now on)", check -> {
            LacedPack pack = Runs.laid("n16;");
            check.same("as it was laid", pack.round(1, 0), 4);
            pack.cut(1);
            check.same("place 1, another CARD", pack.round(1, 0), 4);
            check.same("place 0, another CARD", pack.round(0, 0), 1);
            check.same("place 5", pack.round(5, 0), 2);
        });
        all.told("Promise 15: BAD (PLACES 0 to N less 1, KINDS 0 to 4)", check -> {
            for (int n = 2; n <= 16; n++) {
                LacedPack pack = Runs.laid("n" + n + ";");
                check.holds("round(N - 1, 4)", pack.round(n - 1, 4) >= 1);
                check.same("round(N, 0)", pack.round(n, 0), BAD);
                check.same("round(-1, 0)", pack.round(-1, 0), BAD);
                check.same("round(0, 5)", pack.round(0, 5), BAD);
                check.same("round(0, -1)", pack.round(0, -1), BAD);
            }
        });
        all.told("ROUNDS: in how many rounds all PLACES go: one alone", check -> {
            check.same("2 by IN", Runs.laid("n2;").rounds(1), 1);
            check.same("14 by TURNED", Runs.laid("n14;").rounds(4), 1);
            check.same("12 by IN", Runs.laid("n12;").rounds(1), 1);
        });
        all.told("ROUNDS: in how many rounds all PLACES go: those of one PLACE, too", check -> {
            check.same("2 by OUT", Runs.laid("n2;").rounds(0), 2);
            check.same("3 by OUT", Runs.laid("n3;").rounds(0), 2);
            int[] sixteen = {6, 2, 4, 7, 4};
            for (int kind = 0; kind <= 4; kind++) {
                check.same("16 by " + kind, Runs.laid("n16;").rounds(kind), sixteen[kind]);
            }
        });
        all.told("Promise 16: BAD (KINDS 0 to 4, DEALS are none)", check -> {
            LacedPack pack = Runs.laid("n16;x1;");
            check.same("rounds(-1)", pack.rounds(-1), BAD);
            check.same("rounds(5)", pack.rounds(5), BAD);
            check.same("rounds(6)", pack.rounds(6), BAD);
        });
    }

    private static void bring(Sentences all) {
        all.told("BRING a CARD to a PLACE in which it lies: by no LACING", check -> {
            LacedPack pack = Runs.laid("n16;");
            pack.turn();
            for (int card = 0; card < 16; card++) {
                check.same("how many", pack.bring(card, 15 - card, -1), 0);
                check.same("the first", pack.bring(card, 15 - card, 0), NONE);
            }
        });
        all.told("BRING: from now on, from edge to edge", check -> {
            ways(check, Runs.laid("n16;"), 15, 0, 1, 1, 1, 1);
            ways(check, Runs.laid("n16;"), 0, 15, 1, 1, 1, 1);
            ways(check, Runs.laid("n16;"), 0, 8, 1, 0, 0, 0);
            ways(check, Runs.laid("n2;"), 1, 0, 1);
            ways(check, Runs.laid("n2;"), 0, 1, 1);
            LacedPack pack = Runs.laid("n16;");
            pack.turn();
            ways(check, pack, 15, 8, 1, 0, 0, 0);
        });
        all.told("of several the first (OUT ahead of IN, by the first, then the second, ..)", check -> {
            ways(check, Runs.laid("n9;"), 2, 6, 0, 0, 0, 1);
            ways(check, Runs.laid("n9;"), 6, 2, 0, 1, 0, 1);
            ways(check, Runs.laid("n11;"), 2, 3, 0, 1, 0, 0);
            ways(check, Runs.laid("n11;"), 8, 7, 0, 0, 0, 0);
            ways(check, Runs.laid("n13;"), 9, 3, 0, 0, 1, 0);
        });
        all.told("BRING: how many; none. There is none by which it does not come there", check -> {
            for (int n = 2; n <= 16; n++) {
                for (int card = 0; card < n; card++) {
                    LacedPack pack = Runs.laid("n" + n + ";");
                    for (int place = 0; place < n; place++) {
                        bringsIt(check, pack, card, place);
                    }
                }
            }
        });
        all.told("Promise 17: the k-th (0 first; NONE: there are not so many)", check -> {
            LacedPack pack = Runs.laid("n16;");
            check.same("the last", pack.bring(15, 0, 3), 1);
            check.same("one more", pack.bring(15, 0, 4), NONE);
            check.same("far more", pack.bring(15, 0, 1_000_000), NONE);
            check.same("most", pack.bring(15, 0, Integer.MAX_VALUE), NONE);
        });
        all.told("Promise 17: BAD (k = -1 or from 0 on)", check -> {
            LacedPack pack = Runs.laid("n16;");
            check.same("k = -1", pack.bring(0, 1, -1), 1);
            check.same("k = -2", pack.bring(0, 1, -2), BAD);
            check.same("k = -4", pack.bring(0, 1, -4), BAD);
            check.same("the least k", pack.bring(0, 1, Integer.MIN_VALUE), BAD);
        });
        all.told("Promise 17: BAD (CARDS, PLACES 0 to N less 1)", check -> {
            for (int n = 2; n <= 16; n++) {
                LacedPack pack = Runs.laid("n" + n + ";");
                for (int k : new int[] {-1, 0}) {
                    check.same("card N", pack.bring(n, 0, k), BAD);
                    check.same("card -1", pack.bring(-1, 0, k), BAD);
                    check.same("place N", pack.bring(0, n, k), BAD);
                    check.same("place -1", pack.bring(0, -1, k), BAD);
                }
            }
        });
    }

    private static void ways(Check check, LacedPack pack, int card, int place, int... due) {
        String what = "bring(" + card + ", " + place + ", ";
        check.same(what + "-1)", pack.bring(card, place, -1), due.length);
        for (int k = 0; k < due.length; k++) {
            check.same(what + k + ")", pack.bring(card, place, k), due[k]);
        }
        check.same(what + due.length + ")", pack.bring(card, place, due.length), NONE);
    }

    private static void bringsIt(Check check, LacedPack pack, int card, int place) {
        int count = pack.bring(card, place, -1);
        check.holds("four are enough: " + count, count >= 0 && count <= 4);
        int[] kinds = new int[Math.max(count, 0)];
        for (int k = 0; k < kinds.length; k++) {
            kinds[k] = pack.bring(card, place, k);
            check.holds("OUT or IN: " + kinds[k], kinds[k] == 0 || kinds[k] == 1);
        }
        for (int kind : kinds) {
            pack.lace(kind);
        }
        check.same("the CARD that comes there", pack.at(place), card);
        for (int k = 0; k < kinds.length; k++) {
            pack.undo();
        }
    }

    private static void besideAndOrders(Sentences all) {
        all.told("BESIDE: the fewest LACINGS (0 to 8): none is needed", check -> {
            for (int n = 2; n <= 16; n++) {
                LacedPack pack = Runs.laid("n" + n + ";");
                check.same("the upper two", pack.beside(0, 1), 0);
                check.same("the lower two", pack.beside(n - 1, n - 2), 0);
            }
        });
        all.told("they lie next to each other: the top and the bottom do not", check -> {
            check.same("of 3", Runs.laid("n3;").beside(0, 2), 1);
            check.same("of 7", Runs.laid("n7;").beside(6, 0), 3);
            check.same("of 16", Runs.laid("n16;").beside(0, 15), 3);
        });
        all.told("BESIDE: the most that are needed", check -> {
            check.same("5 of 11", Runs.laid("n11;").beside(0, 10), 5);
            check.same("6 of 13", Runs.laid("n13;").beside(0, 12), 6);
            check.same("6 of 13, the other way", Runs.laid("n13;").beside(12, 0), 6);
        });
        all.told("BESIDE: none", check -> {
            check.same("of 9", Runs.laid("n9;").beside(0, 3), NONE);
            check.same("of 15", Runs.laid("n15;").beside(5, 0), NONE);
            check.same("of 16", Runs.laid("n16;").beside(0, 5), NONE);
            LacedPack pack = Runs.laid("n16;");
            pack.lace(3);
            check.same("from now on", pack.beside(0, 5), 1);
            check.same("none from now on", pack.beside(0, 10), NONE);
        });
        all.told("Promise 18: BAD (alike, too)", check -> {
            LacedPack pack = Runs.laid("n16;");
            for (int card = 0; card < 16; card++) {
                check.same("alike", pack.beside(card, card), BAD);
            }
        });
        all.told("Promise 18: BAD (CARDS 0 to N less 1)", check -> {
            for (int n = 2; n <= 16; n++) {
                LacedPack pack = Runs.laid("n" + n + ";");
                check.same("beside(0, N)", pack.beside(0, n), BAD);
                check.same("beside(N, N - 1)", pack.beside(n, n - 1), BAD);
                check.same("beside(0, -1)", pack.beside(0, -1), BAD);
                check.same("beside(-1, 0)", pack.beside(-1, 0), BAD);
            }
        });
        all.told("ORDERS for n (0 to 6): by none", check -> {
            LacedPack pack = Runs.laid("n16;");
            check.same("as laid", pack.orders(0), 1);
            pack.lace(2);
            check.same("from now on", pack.orders(0), 1);
        });
        all.told("ORDERS: by n LACINGS or fewer, each order once", check -> {
            ordersOf(check, 2, 1, 2, 2, 2, 2, 2, 2);
            ordersOf(check, 3, 1, 3, 5, 6, 6, 6, 6);
            ordersOf(check, 5, 1, 3, 7, 12, 16, 19, 20);
            ordersOf(check, 10, 1, 3, 7, 15, 31, 63, 124);
            ordersOf(check, 15, 1, 3, 7, 15, 29, 42, 53);
            ordersOf(check, 16, 1, 3, 7, 15, 30, 44, 56);
        });
        all.told("ORDERS: as many as there are ways", check -> ordersOf(check, 12, 1, 3, 7, 15, 31, 63, 127));
        all.told("Promise 19: ORDERS. BAD (n 0 to 6)", check -> {
            LacedPack pack = Runs.laid("n12;");
            check.same("orders(-1)", pack.orders(-1), BAD);
            check.same("orders(6)", pack.orders(6), 127);
            check.same("orders(7)", pack.orders(7), BAD);
        });
    }

    private static void ordersOf(Check check, int cards, int... due) {
        LacedPack pack = Runs.laid("n" + cards + ";");
        for (int n = due.length - 1; n >= 0; n--) {
            check.same(cards + " cards: orders(" + n + ")", pack.orders(n), due[n]);
        }
        pack.lace(4);
        check.same(cards + " cards, laced: orders(6)", pack.orders(6), due[6]);
    }

    private static void risingAndPairs(Sentences all) {
        all.told("RISING: 1 and one for each CARD whose next higher one lies nearer to the top: none", check -> {
            for (int n = 2; n <= 16; n++) {
                check.same("in order", Runs.laid("n" + n + ";").rising(), 1);
            }
        });
        all.told("RISING: one for each CARD whose next higher one lies nearer to the top: all but the highest", check -> {
            for (int n = 2; n <= 16; n++) {
                LacedPack pack = Runs.laid("n" + n + ";");
                pack.turn();
                check.same("turned over", pack.rising(), n);
            }
        });
        all.told("RISING: the highest and the lowest one are no neighbours", check -> {
            LacedPack pack = Runs.laid("n16;");
            pack.cut(15);
            check.same("the lowest one below", pack.rising(), 2);
            pack.cut(2);
            check.same("the lowest one on the bottom", pack.rising(), 2);
        });
        all.told("PAIRS: how many of PLACES 0 and 1, 2 and 3, ..: all", check -> {
            for (int n = 2; n <= 16; n++) {
                check.same(n + " cards", Runs.laid("n" + n + ";").pairs(), n / 2);
            }
        });
        all.told("PAIRS hold CARDS of unlike COLOURS: none", check -> {
            check.same("of 2", Runs.laid("n2;c1,0;").pairs(), 0);
            check.same("of 3", Runs.laid("n3;c1,0;").pairs(), 0);
            check.same("of 16", Runs.laid("n16;c0,1;c2,1;c4,1;c6,1;c8,1;c10,1;c12,1;c14,1;").pairs(), 0);
            check.same("of 4 by 3 and 2", Runs.laid("n4;c0,3;c1,3;c2,2;c3,2;").pairs(), 0);
        });
        all.told("PAIRS are of PLACES, not of CARDS; 1 and 2 are none", check -> {
            LacedPack pack = Runs.laid("n4;c0,0;c1,0;c2,1;c3,1;");
            check.same("0 0 1 1", pack.pairs(), 0);
            pack.cut(1);
            check.same("0 1 1 0", pack.pairs(), 2);
        });
        all.told("PAIRS: the last PLACE of an odd pack is in none", check -> {
            LacedPack pack = Runs.laid("n3;c0,0;c1,0;c2,3;");
            check.same("0 0 3", pack.pairs(), 0);
            pack.cut(2);
            check.same("3 0 0", pack.pairs(), 1);
        });
    }

    private static void sure(Sentences all) {
        all.told("SURE for c (0 to N): none is dealt off", check -> {
            sureIs(check, "n8;", 0, 1, 1);
            sureIs(check, "n8;c0,1;", 0, 0, 1);
            sureIs(check, "n3;c1,0;c2,1;", 0, 0, 1);
        });
        all.told("SURE for c (0 to N): all are dealt off", check -> {
            sureIs(check, "n8;", 8, 1, 1);
            sureIs(check, "n8;c0,1;", 8, 0, 1);
            sureIs(check, "n3;c1,0;c2,1;", 3, 1, 1);
            sureIs(check, "n16;", 16, 1, 1);
        });
        all.told("SURE: one is dealt off, all but one are", check -> {
            sureIs(check, "n2;", 1, 1, 1);
            sureIs(check, "n2;c1,0;", 1, 0, 1);
            sureIs(check, "n3;c1,0;c2,1;", 1, 1, 3);
            sureIs(check, "n3;c1,0;c2,1;", 2, 2, 3);
            String twos = "n16;c2,1;c4,2;c5,2;c6,3;c7,3;c1,0;c10,1;c9,0;c12,2;c13,2;c14,3;c15,3;c3,1;c11,1;c8,0;";
            sureIs(check, twos, 1, 1, 8);
            sureIs(check, twos, 8, 56, 715);
            sureIs(check, twos, 15, 1, 8);
        });
        all.told("dealt off one by one (so that they lie turned over)", check -> {
            sureIs(check, "n5;c1,1;c2,1;c3,0;c4,0;", 1, 2, 5);
            sureIs(check, "n5;c1,1;c2,1;c3,0;c4,0;", 2, 2, 5);
            sureIs(check, "n5;c1,1;c2,1;c3,0;c4,0;", 3, 3, 5);
            sureIs(check, "n5;c1,1;c2,1;c3,0;c4,0;", 4, 3, 5);
            for (int c = 0; c <= 16; c++) {
                sureIs(check, "n16;", c, 1, 1);
            }
        });
        all.told("SURE is as it lies now", check -> {
            LacedPack pack = Runs.laid("n3;c1,0;c2,1;");
            pack.cut(2);
            check.same("1 0 0, none dealt off", pack.sure(0, 0), 1);
            check.same("1 0 0, all dealt off", pack.sure(3, 0), 0);
        });
        all.told("in lowest terms", check -> {
            sureIs(check, "n4;c1,0;c2,1;", 2, 2, 3);
            sureIs(check, "n4;c1,0;c2,1;", 3, 1, 2);
            sureIs(check, "n8;c1,0;c2,1;c4,2;c5,2;c6,3;c7,3;", 4, 12, 35);
        });
        all.told("Promise 22: above (part = 0), below (1). BAD (c 0 to N)", check -> {
            for (int n = 2; n <= 16; n++) {
                LacedPack pack = Runs.laid("n" + n + ";");
                check.holds("sure(N, 1)", pack.sure(n, 1) == 1);
                check.same("sure(N + 1, 0)", pack.sure(n + 1, 0), BAD);
                check.same("sure(-1, 0)", pack.sure(-1, 0), BAD);
                check.same("sure(0, 2)", pack.sure(0, 2), BAD);
                check.same("sure(0, -1)", pack.sure(0, -1), BAD);
            }
        });
    }

    private static void sureIs(Check check, String text, int c, int above, int below) {
        LacedPack pack = Runs.laid(text);
        check.same(text + " above for " + c, pack.sure(c, 0), above);
        check.same(text + " below for " + c, pack.sure(c, 1), below);
    }
}
