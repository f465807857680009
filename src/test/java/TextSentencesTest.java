/** The sentences on edges in "What it is" and section 1, and in promises 1 to 5: the text and how it is laid. */
public final class TextSentencesTest {
    private static final int BAD = -1, NO = -2, FULL = -3, NONE = -4;

    public static void main(String[] args) {
        Sentences all = new Sentences();
        theObject(all);
        theText(all);
        theItems(all);
        theFault(all);
        writing(all);
        laying(all);
        all.end();
    }

    private static void theObject(Sentences all) {
        all.told("An object is used for at most 512 calls after it has been made", check -> {
            LacedPack pack = new LacedPack();
            for (int call = 1; call <= 503; call++) {
                check.same("cut(1), call " + call, pack.cut(1), call % 10);
            }
            for (int left = 7; left >= 0; left--) {
                check.same("undo() at the far end", pack.undo(), left);
            }
            check.same("at(0), call 512", pack.at(0), 5);
        });
        all.told("Promise 1: As told (at first n10;c3,0;c4,2;l0;x3;l1;)", check -> {
            LacedPack first = new LacedPack();
            LacedPack told = Runs.laid("n10;c3,0;c4,2;l0;x3;l1;");
            told.wipe();
            check.holds("a new one is as one laid so", Runs.trace(first).equals(Runs.trace(told)));
            check.same("its cards", new LacedPack().count(0), 10);
            check.same("its acts", new LacedPack().count(1), 3);
        });
        all.told("Promise 1: THE TEXT is empty", check -> {
            check.same("letters", new LacedPack().count(5), 0);
            check.same("fault()", new LacedPack().fault(), NONE);
            check.same("lay()", new LacedPack().lay(), NO);
            check.same("the first letter", new LacedPack().write('n'), 1);
        });
    }

    private static void theText(Sentences all) {
        all.told("A TEXT is letters (200 at most): so many are read", check -> {
            String full = "c0,1;".repeat(39) + "c7,3;";
            check.same("letters of the text", full.length(), 200);
            check.noFault(full);
            check.same("the last item counts", Runs.laid(full).colour(7), 3);
            check.faultOf("c0,1;".repeat(39) + "c8,3;", 195);
            check.faultOf("c0,1;".repeat(39) + "c7,3,", 195);
        });
        all.told("A TEXT is letters (200 at most): the next one is none of it", check -> {
            LacedPack pack = new LacedPack();
            Runs.write(pack, "c0,1;".repeat(39) + "c7,3");
            check.same("letters", pack.count(5), 199);
            check.same("the 200th letter", pack.write(','), 200);
            check.same("the 201st letter", pack.write('0'), FULL);
            check.same("the 202nd letter", pack.write(';'), FULL);
            check.same("fault()", pack.fault(), 195);
        });
        all.told("ITEMS one behind the other", check -> {
            check.noFault("n8;l0;", "l0;l0;l0;");
            for (String between : new String[] {" ", ",", ";", "0", "."}) {
                check.faultOf("n8;" + between + "l0;", 3);
                check.faultOf("n8;l0;" + between, 6);
                check.faultOf(between + "n8;", 0);
            }
        });
    }

    private static void theItems(Sentences all) {
        all.told("each a letter: n, c, l, x and no other", check -> {
            for (int letter = 32; letter <= 126; letter++) {
                boolean takesOne = letter == 'n' || letter == 'l' || letter == 'x';
                check.faultOf((char) letter + "3;", takesOne ? NONE : 0);
                check.faultOf((char) letter + "3,1;", letter == 'c' ? NONE : 0);
            }
        });
        all.told("then numbers (one or two figures)", check -> {
            check.noFault("n8;", "n08;", "l0;", "l00;", "x7;", "x07;", "c7,3;", "c07,3;", "c7,03;", "c00,00;");
            check.faulty("n;", "n008;", "l;", "l000;", "x;", "x007;", "c,3;", "c7,;", "c,;", "c007,3;", "c7,003;");
            check.faulty("n+8;", "n 8;", "n8 ;", "l-1;", "nA;", "x0x;", "n/;", "n:;", "n1/;", "n1:;");
        });
        all.told("numbers parted by ,", check -> {
            check.noFault("c1,2;");
            check.faulty("c1;2;", "c1 2;", "c1.2;", "c12;", "c1,,2;", "c1, 2;");
        });
        all.told("so many numbers as the item has", check ->
            check.faulty("n8,8;", "l0,0;", "x0,0;", "c1;", "c1,2,3;", "n8,;", "c1,2,;"));
        all.told("a ; behind the last one", check -> {
            for (String item : new String[] {"n16;", "c10,1;", "l4;", "x7;"}) {
                for (int length = 1; length < item.length(); length++) {
                    check.faultOf("n16;" + item.substring(0, length), 4);
                }
            }
            check.faulty("n8,", "n8.", "n8:", "l0l0;", "c1,2,");
        });
        all.told("nN the PACK has N (2 to 16) CARDS", check -> {
            for (int n = 0; n < 100; n++) {
                check.faultOf("n" + n + ";", n >= 2 && n <= 16 ? NONE : 0);
            }
            check.same("n2;", Runs.laid("n2;").count(0), 2);
            check.same("n16;", Runs.laid("n16;").count(0), 16);
        });
        all.told("0 on top, 1, ..", check -> {
            check.order("of 2", Runs.laid("n2;"), "0 1");
            check.order("of 16", Runs.laid("n16;"), "0 1 2 3 4 5 6 7 8 9 10 11 12 13 14 15");
        });
        all.told("8 without", check -> {
            check.same("lay()", Runs.laid("l0;").lay(), 8);
            check.noFault("c7,0;", "x7;");
            check.faultOf("c8,0;", 0);
            check.faultOf("x8;", 0);
            LacedPack pack = Runs.laid("n16;");
            pack.wipe();
            Runs.write(pack, "x8;");
            check.same("what was laid is not what is told", pack.fault(), 0);
        });
        all.told("no other ITEM ahead of it but n", check -> {
            check.noFault("n4;n5;n6;");
            check.faultOf("c0,0;n8;", 5);
            check.faultOf("l0;n8;", 3);
            check.faultOf("x0;n8;", 3);
            check.faultOf("n8;c0,0;n8;", 8);
            check.faultOf("n8;n9;l0;n8;", 9);
        });
        all.told("n, of which the last one counts", check -> {
            check.same("16, then 2", Runs.laid("n16;n2;").count(0), 2);
            check.same("2, then 16", Runs.laid("n2;n16;").count(0), 16);
            check.faultOf("n16;n2;c2,0;", 7);
            check.faultOf("n16;n2;x2;", 7);
            check.noFault("n2;n16;c15,0;x15;");
            check.faultOf("n17;n8;", 0);
        });
        all.told("cI,K CARD I (such as there is)", check -> {
            for (int n = 2; n <= 16; n++) {
                check.noFault("n" + n + ";c0,0;c" + (n - 1) + ",0;");
                check.faultOf("n" + n + ";c" + n + ",0;", n < 10 ? 3 : 4);
            }
            check.faulty("c99,0;");
        });
        all.told("of COLOUR K (0 to 3)", check -> {
            check.same("the least", Runs.laid("c1,0;").colour(1), 0);
            check.same("the greatest", Runs.laid("c1,3;").colour(1), 3);
            check.faulty("c1,4;", "c1,04;", "c1,10;", "c1,99;");
        });
        all.told("I modulo 2 without", check -> {
            LacedPack pack = Runs.laid("n16;");
            for (int card = 0; card < 16; card++) {
                check.same("colour(" + card + ")", pack.colour(card), card % 2);
            }
            pack = Runs.laid("n16;c0,2;c15,2;");
            check.same("beside a told one", pack.colour(1), 1);
            check.same("above a told one", pack.colour(14), 0);
        });
        all.told("the last one of each", check -> {
            LacedPack pack = Runs.laid("c2,3;c3,3;c2,1;c3,0;c2,2;");
            check.same("colour(2)", pack.colour(2), 2);
            check.same("colour(3)", pack.colour(3), 0);
        });
        all.told("lK by KIND K (0 to 4)", check -> {
            for (int k = 0; k < 100; k++) {
                check.faultOf("l" + k + ";", k <= 4 ? NONE : 0);
            }
        });
        all.told("16 of l, x at most", check -> {
            check.same("16 of l", Runs.laid("l1;".repeat(16)).count(1), 16);
            check.same("16 of x", Runs.laid("x1;".repeat(16)).count(1), 16);
            check.same("16 of both", Runs.laid("x1;l1;".repeat(8)).count(1), 16);
            check.faultOf("l1;".repeat(17), 48);
            check.faultOf("x1;".repeat(17), 48);
            check.faultOf("l1;".repeat(16) + "x1;", 48);
            check.faultOf("x1;".repeat(16) + "l1;", 48);
            check.noFault("l1;".repeat(16) + "c0,0;");
            check.same("none", Runs.laid("c0,0;").count(1), 0);
        });
        all.told("l, x one behind the other", check -> {
            check.order("l0;x1;", dealt("n4;l0;x1;"), "2 1 3 0");
            check.order("x1;l0;", dealt("n4;x1;l0;"), "1 3 2 0");
            check.order("16 of x", dealt("n16;" + "x1;".repeat(15) + "x2;"), "1 2 3 4 5 6 7 8 9 10 11 12 13 14 15 0");
        });
        all.told("xC it is CUT at C (0 to N less 1)", check -> {
            for (int n = 2; n <= 16; n++) {
                check.noFault("n" + n + ";x0;x" + (n - 1) + ";");
                check.faultOf("n" + n + ";x" + n + ";", n < 10 ? 3 : 4);
            }
            check.faulty("x99;");
        });
    }

    private static void theFault(Sentences all) {
        all.told("FAULT: the place (from 0 on) of the first letter of the ITEM", check -> {
            check.faultOf("z", 0);
            check.faultOf("n8;c00,99;", 3);
            check.faultOf("n16;c15,3;l4;x15", 13);
            check.faultOf("c0,1;".repeat(39) + "l0;l5", 198);
            check.faultOf("c0,1;".repeat(39) + "l0; ;", 198);
            check.faultOf("c0,01;".repeat(33) + "l0", 198);
            check.faultOf("c00,01;".repeat(28) + "l0;n", 199);
        });
        all.told("of the first ITEM that is not so", check -> {
            check.faultOf("l5;x8;", 0);
            check.faultOf("n8;l5;n1;", 3);
            check.faultOf("n8;c9,9;zzz", 3);
            check.faultOf("n8;l0;zzz", 6);
        });
        all.told("Promise 4: FAULT. NONE.", check -> {
            check.same("of an empty text", new LacedPack().fault(), NONE);
            check.noFault("n8;");
            LacedPack pack = new LacedPack();
            int[] due = {0, 0, NONE, 3, 3, NONE};
            for (int i = 0; i < due.length; i++) {
                pack.write("n8;l0;".charAt(i));
                check.same("fault() behind letter " + i, pack.fault(), due[i]);
            }
            check.same("fault() anew", pack.fault(), NONE);
        });
    }

    private static void writing(Sentences all) {
        all.told("Promise 2: A letter (32 to 126, as in ASCII). BAD", check -> {
            for (int letter = -300; letter < 700; letter++) {
                int due = letter >= 32 && letter <= 126 ? 1 : BAD;
                check.same("write(" + letter + ")", new LacedPack().write(letter), due);
            }
            LacedPack pack = new LacedPack();
            for (int letter : new int[] {Integer.MIN_VALUE, 65536 + 'n', -65536 + 'n', Integer.MAX_VALUE}) {
                check.same("write(" + letter + ")", pack.write(letter), BAD);
            }
        });
        all.told("Promise 2: how long it is. FULL", check -> {
            LacedPack pack = new LacedPack();
            for (int length = 1; length <= 200; length++) {
                check.same("letter " + length, pack.write(';'), length);
            }
            check.same("one more", pack.write(';'), FULL);
            check.same("how long it was", pack.wipe(), 200);
            check.same("behind wipe()", pack.write(';'), 1);
        });
        all.told("Promise 3: THE TEXT is empty: how long it was", check -> {
            LacedPack pack = new LacedPack();
            check.same("wipe() of none", pack.wipe(), 0);
            pack.write('z');
            check.same("wipe() of one", pack.wipe(), 1);
            check.same("wipe() again", pack.wipe(), 0);
            check.same("fault()", pack.fault(), NONE);
            check.same("lay()", pack.lay(), NO);
            check.same("letters", pack.count(5), 0);
        });
    }

    private static void laying(Sentences all) {
        all.told("LAID is a TEXT without FAULT (NO else)", check -> {
            for (String text : new String[] {"n1;", "n17;", "n8", "n8;l5;", "n8;z", "c8,0;", " "}) {
                check.same("lay() of " + text, Runs.written(text).lay(), NO);
            }
        });
        all.told("not empty (NO else)", check -> {
            check.same("lay() of no text", new LacedPack().lay(), NO);
            LacedPack pack = Runs.laid("n2;");
            pack.wipe();
            check.same("lay() of a wiped text", pack.lay(), NO);
            check.same("cards", pack.count(0), 2);
        });
        all.told("Promise 5: LAID: how many CARDS; in order", check -> {
            LacedPack pack = Runs.laid("n3;");
            pack.lace(4);
            check.same("lay() again", pack.lay(), 3);
            check.order("laid again", pack, "0 1 2");
        });
        all.told("Promise 5: nothing SEEN", check -> {
            LacedPack pack = busy();
            pack.lay();
            check.same("count(2)", pack.count(2), 0);
            check.same("done(0)", pack.done(0), 63);
            check.same("forget()", pack.forget(), 0);
            check.same("seen(0, 0)", pack.seen(0, 0), 1);
        });
        all.told("Promise 5: nothing UNDONE", check -> {
            LacedPack pack = busy();
            pack.lay();
            check.same("count(3)", pack.count(3), 0);
            check.same("undo()", pack.undo(), NO);
            check.order("behind undo()", pack, "0 1 2 3 4");
        });
        all.told("Promise 5: nothing KEPT", check -> {
            LacedPack pack = busy();
            pack.lay();
            check.same("count(4)", pack.count(4), 0);
            check.same("back()", pack.back(), NO);
            check.same("keep()", pack.keep(), 1);
        });
        all.told("Promise 5: (THE TEXT stays)", check -> {
            LacedPack pack = busy();
            pack.lay();
            check.same("letters", pack.count(5), 3);
            check.same("one more", pack.write('z'), 4);
            check.same("lay()", pack.lay(), NO);
        });
        all.told("what was told of the last pack is told no more", check -> {
            LacedPack pack = Runs.laid("n16;c1,3;l1;x2;");
            pack.wipe();
            Runs.write(pack, "n6;");
            check.same("lay()", pack.lay(), 6);
            check.same("colour(1)", pack.colour(1), 1);
            check.same("acts", pack.count(1), 0);
            pack.deal();
            check.order("dealt", pack, "0 1 2 3 4 5");
            check.same("at(6)", pack.at(6), BAD);
        });
    }

    private static LacedPack dealt(String text) {
        LacedPack pack = Runs.laid(text);
        pack.deal();
        return pack;
    }

    /** Five cards, with acts that can be undone, one that was seen, both orders kept. */
    private static LacedPack busy() {
        LacedPack pack = Runs.laid("n5;");
        pack.lace(0);
        pack.keep();
        pack.turn();
        pack.keep();
        pack.seen(4, 0);
        return pack;
    }
}
