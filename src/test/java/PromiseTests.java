/** Each promise by itself: ordinary calls, the edges that the document names, wrong calls. */
public final class PromiseTests {
    private static final Checks CHECKS = new Checks();
    private static final int NONE = QueenBelt.NONE;
    private static final int LOW = Integer.MIN_VALUE;
    private static final int HIGH = Integer.MAX_VALUE;
    private static final String FOUR = "colour a;colour b;colour c;colour d;";
    /** Its rows are on, on the pack (l goes back), the pack still (l goes on). */
    private static final String LOOM = FOUR
            + "card k strung s a b c d;card l strung z d c b a;pack p k;weave on on p still p;";

    private static void due(String what, long got, long want) {
        CHECKS.due(what, got, want);
    }

    private static void due(String what, boolean got, boolean want) {
        CHECKS.due(what, got, want);
    }

    private static QueenBelt loom() {
        return Checks.loom(LOOM);
    }

    private static void newObject() {
        QueenBelt x = new QueenBelt();
        int[] fresh = {0, 0, 0, 40, 0, 0, NONE, 0, 0, 1, 0, 0, 0};
        for (int i = 0; i < fresh.length; i++) {
            due("new: loom " + i, x.loom(i), fresh[i]);
        }
        due("new: turn", x.turn(0, NONE), NONE);
        due("new: unweave", x.unweave(), false);
        due("new: octet", x.octet(0), NONE);
        due("new: image", x.image(), 2);
        due("new: rows of the image", x.octet(0), 0);
        due("new: the last of the image", x.octet(1), 339 % 247);
        due("NONE", QueenBelt.NONE, -1);
        due("NOTHING", QueenBelt.NOTHING, -1000000000000000L);
    }

    private static void feedAndEnd() {
        QueenBelt x = new QueenBelt();
        due("end 0", x.end(0), true);
        due("end 1", x.end(1), false);
        for (int i = 1; i <= 80; i++) {
            due("feed", x.feed(0x636f6c6f, 0x75722061, 0x3b202020, 0x20202020, 0x20202020), 20 * i);
        }
        due("too much", x.feed(0, 0, 0, 0, 0), NONE);
        due("end 1601", x.end(1601), false);
        due("end below 0", x.end(-1), false);
        due("end LOW", x.end(LOW), false);
        due("end 1600", x.end(1600), true);
        due("end 1581", x.end(1581), true);
        due("still too much", x.feed(0, 0, 0, 0, 0), NONE);
        due("end 1580", x.end(1580), true);
        due("up to the last", x.feed(0, 0, 0, 0, 0), 1600);
        due("end 19", x.end(19), true);
        due("no longer there", x.end(20), false);
        due("text", x.text(), 1);
        due("the tape goes", x.feed(0, 0, 0, 0, 0), 20);
        QueenBelt y = loom();
        due("bytes over 127", y.feed(0xffffffff, -1, -1, -1, -1), 20);
        due("they are no colours", y.strip(false), NONE);
        y.feed(0x01020304, 0x00010203, 0x04000102, 0x03040001, 0x02030400);
        y.end(4);
        due("the highest byte first", y.strip(false), 2);
        due("it is in front", y.loom(11), 2);
    }

    private static void text() {
        QueenBelt x = new QueenBelt();
        due("the empty text", x.text(), 0);
        due("blanks alone", Checks.text(x, " \n "), 0);
        due("statements", Checks.text(x, LOOM), 8);
        Checks.strip(x, false, 1, 1);
        Checks.strip(x, true, 1, 1);
        x.turn(0, NONE);
        due("with a fault", Checks.text(x, "colour a;colour a;"), NONE);
        due("rows stay", x.loom(5), 4);
        due("acts stay", x.loom(10), 1);
        due("strips stay", x.loom(11) + x.loom(12), 2);
        due("names stay", x.letter(1, 1, 0), 12);
        due("without one", Checks.text(x, FOUR + "card k strung s a b c d;weave on;"), 6);
        due("nothing can be undone", x.undo(), false);
        due("no strip in front", x.loom(11), 0);
        due("none behind", x.loom(12), 0);
        due("no packs", x.loom(2), 0);
        due("rows of the new one", x.loom(5), 1);
        due("what is told later", Checks.text(x, "weave on;" + FOUR
                + "card k strung s a b c d;twist 2;"), 7);
        due("is woven, too", x.card(0, 6), 101);
        due("letters without cards", Checks.text(x, "weave on back on;"), 1);
        due("are rows", x.loom(5), 3);
        due("that are alike", x.loom(8), 1);
        due("and come home at once", x.loom(9), 1);
        due("they can be unwoven", x.unweave(), true);
        due("but none is woven", x.turn(0, NONE), NONE);
    }

    private static void fault() {
        QueenBelt x = new QueenBelt();
        due("ahead of any", x.fault(0), 0);
        due("ahead of any, place", x.fault(1), NONE);
        due("another what", x.fault(2), NONE);
        due("below", x.fault(-1), NONE);
        Checks.text(x, "twist 41;");
        due("of a text", x.fault(0), 2);
        due("its place", x.fault(1), 6);
        Checks.ask(x, "total 5 5");
        due("of a question", x.fault(0), 1);
        due("its place", x.fault(1), 8);
        Checks.strip(x, false, 9);
        Checks.on(x, 9);
        due("of nothing else", x.fault(1), 8);
        Checks.ask(x, "total 5");
        due("gone", x.fault(0), 0);
        due("its place gone", x.fault(1), NONE);
    }

    private static void loomAndNames() {
        QueenBelt x = loom();
        int[] told = {4, 2, 1, 40, 3, 3, NONE, 3, 3, 4, 0, 0, 0};
        for (int i = 0; i < told.length; i++) {
            due("loom " + i, x.loom(i), told[i]);
        }
        due("loom 13", x.loom(13), NONE);
        due("loom -1", x.loom(-1), NONE);
        Checks.text(x, FOUR + "card k strung s a b c d;twist 2;weave twice [on back on on] on;");
        due("letters told twice", x.loom(4), 9);
        due("which could not be", x.loom(6), 4);
        due("rows ahead of it", x.loom(5), 4);
        due("rhyme", x.loom(8), 4);
        due("joins", x.loom(9), 2);
        due("left", x.loom(7), 2);
        x.turn(1, NONE);
        due("rows woven by hand", x.loom(5), 5);
        due("what could not be stays", x.loom(6), 4);
        x = Checks.loom(FOUR + "card strong strung s a b c d;pack p strong;");
        due("first letter", x.letter(1, 0, 0), 19);
        due("last letter", x.letter(1, 0, 5), 7);
        due("behind the last", x.letter(1, 0, 6), NONE);
        due("ahead of the first", x.letter(1, 0, -1), NONE);
        due("behind a short name", x.letter(2, 0, 1), 0);
        due("colour d", x.letter(0, 3, 0), 4);
        due("no colour", x.letter(0, 4, 0), NONE);
        due("no card", x.letter(1, -1, 0), NONE);
        due("no pack", x.letter(2, 1, 0), NONE);
        due("no kind", x.letter(3, 0, 0), NONE);
    }

    private static void cardAndPack() {
        QueenBelt x = loom();
        int[][] told = {{0, 1, 2, 3, 0, 2, 102, 0}, {3, 2, 1, 0, 1, 1, 101, 1}};
        for (int card = 0; card < 2; card++) {
            for (int i = 0; i < 8; i++) {
                due("card " + card + ", " + i, x.card(card, i), told[card][i]);
            }
            due("what 8", x.card(card, 8), NONE);
            due("what -1", x.card(card, -1), NONE);
        }
        due("card 2", x.card(2, 0), NONE);
        due("card -1", x.card(-1, 0), NONE);
        due("of the pack", x.pack(0, 0), 1);
        due("not of the pack", x.pack(0, 1), 0);
        due("no pack", x.pack(1, 0), NONE);
        due("no pack below", x.pack(NONE, 0), NONE);
        due("no card", x.pack(0, 2), NONE);
        due("no card below", x.pack(0, LOW), NONE);
    }

    private static void belt() {
        QueenBelt x = loom();
        int[][][] told = {
            {{1, 3, 1, 1, 101}, {2, 0, 2, 1, 101}},
            {{2, 0, 1, 1, 102}, {3, 1, 1, 2, 100}},
            {{2, 0, 0, 0, 102}, {2, 0, 2, 1, 101}}};
        for (int row = 0; row < 3; row++) {
            for (int card = 0; card < 2; card++) {
                for (int i = 0; i < 5; i++) {
                    due("belt " + row + card + i, x.belt(row, card, i), told[row][card][i]);
                }
            }
        }
        due("no row", x.belt(3, 0, 0), NONE);
        due("no row below", x.belt(-1, 0, 4), NONE);
        due("no card", x.belt(0, 2, 0), NONE);
        due("no what", x.belt(0, 0, 5), NONE);
        due("no what below", x.belt(0, 0, -1), NONE);
        int[][] cells = {{0, 4}, {1, 1}, {4, 0}, {1, 1}};
        for (int colour = 0; colour < 4; colour++) {
            due("shown " + colour, x.shown(colour, false), cells[colour][0]);
            due("shown behind " + colour, x.shown(colour, true), cells[colour][1]);
        }
        due("no colour", x.shown(4, false), NONE);
        due("no colour below", x.shown(-1, true), NONE);
    }

    private static void turn() {
        QueenBelt x = loom();
        due("on", x.turn(0, NONE), 4);
        due("back", x.turn(1, NONE), 5);
        due("on a pack", x.turn(0, 0), 6);
        due("back a pack", x.turn(1, 0), 7);
        due("still a pack", x.turn(2, 0), 8);
        int[][] turns = {{1, 1}, {2, 2}, {1, 2}, {2, 1}, {0, 1}};
        for (int i = 0; i < 5; i++) {
            due("turn " + i, 10 * x.belt(3 + i, 0, 3) + x.belt(3 + i, 1, 3),
                    10 * turns[i][0] + turns[i][1]);
        }
        due("still of all", x.turn(2, NONE), NONE);
        due("no how", x.turn(3, 0), NONE);
        due("no how below", x.turn(-1, 0), NONE);
        due("no pack", x.turn(0, 1), NONE);
        due("no pack below", x.turn(0, -2), NONE);
        due("nothing was done", x.loom(10) * 100 + x.loom(5), 508);
        x = Checks.loom(FOUR + "card k strung s a b c d;card l strung s a b c d;pack p k;twist 1;");
        due("to the twist", x.turn(0, 0), 1);
        due("k can't", x.turn(0, NONE), NONE);
        due("l can't", x.turn(1, NONE), NONE);
        due("both can", x.turn(1, 0), 2);
        due("twists", 1000 * x.card(0, 6) + x.card(1, 6), 100100);
        x = Checks.loom(FOUR + "card k strung s a b c d;");
        for (int i = 1; i <= 60; i++) {
            due("row " + i, x.turn(i & 1, NONE), i);
        }
        due("row 61", x.turn(1, NONE), NONE);
        due("60 rows", x.loom(5), 60);
        due("the last 20", x.loom(10), 20);
    }

    private static void actsAndUndo() {
        QueenBelt x = loom();
        due("unweave", x.unweave(), true);
        due("rows", x.loom(5), 2);
        due("shift", x.shift(0), true);
        due("threads", x.card(0, 0) * 1000 + x.card(0, 1) * 100 + x.card(0, 2) * 10 + x.card(0, 3),
                1230);
        due("as if all along", x.belt(0, 0, 0), 2);
        due("the other as it was", x.belt(0, 1, 0), 2);
        due("string", x.string(1), true);
        due("strung s", x.card(1, 4), 0);
        due("slants", x.belt(0, 1, 2) * 10 + x.belt(1, 1, 2), 12);
        due("no card to shift", x.shift(2), false);
        due("no card to string", x.string(-1), false);
        due("three acts", x.loom(10), 3);
        due("undo string", x.undo(), true);
        due("strung z", x.card(1, 4), 1);
        due("undo shift", x.undo(), true);
        due("corner a", x.card(0, 0), 0);
        due("undo unweave", x.undo(), true);
        due("the row is there", x.belt(2, 0, 3) * 10 + x.belt(2, 1, 3), 1);
        due("all is undone", x.undo(), false);
        for (int i = 0; i < 25; i++) {
            x.shift(0);
        }
        due("20 of 25", x.loom(10), 20);
        for (int i = 0; i < 20; i++) {
            due("undo " + i, x.undo(), true);
        }
        due("no more", x.undo(), false);
        due("5 shifts stay", x.card(0, 0), 1);
        while (x.unweave()) {
            x.loom(5);
        }
        due("no rows", x.loom(5), 0);
        due("rhyme without rows", x.loom(8), 0);
        due("joins without rows", x.loom(9), 1);
        due("unweave without rows", x.unweave(), false);
    }

    /** Of 30 unlike acts the last 20 are undone, the latest first. */
    private static void manyActs() {
        QueenBelt x = loom();
        int[][] images = new int[31][];
        for (int i = 0; i < 30; i++) {
            images[i] = Checks.image(x);
            switch (i * i % 7) {
                case 0: x.shift(i & 1); break;
                case 1: x.turn(i % 3, 0); break;
                case 2: x.string(i & 1); break;
                default: x.unweave(); x.turn(1, NONE); i++; images[i] = null; break;
            }
        }
        due("20 can be undone", x.loom(10), 20);
        for (int i = 29; i >= 10; i--) {
            due("undo " + i, x.undo(), true);
            int[] want = images[i];
            int[] got = Checks.image(x);
            for (int k = 0; want != null && k < want.length; k++) {
                due("octet " + k + " ahead of act " + i, k < got.length ? got[k] : NONE, want[k]);
            }
        }
        due("the first 10 stay", x.undo(), false);
    }

    private static void strip() {
        QueenBelt x = loom();
        due("no bytes", Checks.strip(x, false), NONE);
        due("half a row", Checks.strip(x, false, 1, 2, 3), NONE);
        due("no such colour", Checks.strip(x, false, 1, 5), NONE);
        due("all colours", Checks.strip(x, false, 0, 1, 2, 3, 4, 0), 3);
        due("13 rows", Checks.strip(x, false, new int[26]), NONE);
        due("the old one stays", x.loom(11), 3);
        due("12 rows behind", Checks.strip(x, true, new int[24]), 12);
        due("both are there", x.loom(11) * 100 + x.loom(12), 312);
        Checks.put(x, new int[] {9, 9});
        x.strip(true);
        due("the tape goes", x.end(1), false);
        due("without cards", Checks.strip(new QueenBelt(), false, 0), NONE);
    }

    private static void woven() {
        QueenBelt x = loom();
        for (int what = 0; what < 3; what++) {
            due("without a strip", x.woven(0, 0, what), NONE);
        }
        Checks.strip(x, true, 0, 0);
        due("with one behind alone", x.woven(0, 0, 0), NONE);
        due("both of one alone", x.both(0, 0), NONE);
        Checks.strip(x, false, 2, 0, 1, 0);
        due("k from a: on, back", x.woven(0, 0, 0), 1);
        due("k from c: back, back", x.woven(0, 2, 0), 1);
        due("k from b", x.woven(0, 1, 0), 0);
        due("k from all", x.woven(0, NONE, 0), 2);
        due("backs from a", x.woven(0, 0, 1), 1);
        due("backs from c", x.woven(0, 2, 1), 2);
        due("backs from b", x.woven(0, 1, 1), NONE);
        due("fewest backs", x.woven(0, NONE, 1), 1);
        due("no twist from a", x.woven(0, 0, 2), 1);
        due("no twist from c", x.woven(0, 2, 2), 0);
        due("no twist from b", x.woven(0, 1, 2), 0);
        due("l: all four from a", x.woven(1, 0, 0), 4);
        due("l: from all", x.woven(1, NONE, 0), 16);
        due("no corner", x.woven(0, 4, 0), NONE);
        due("no corner below", x.woven(0, -2, 0), NONE);
        due("no card", x.woven(2, 0, 0), NONE);
        due("no what", x.woven(0, 0, 3), NONE);
        due("both as long as not", x.both(0, 0), NONE);
        Checks.strip(x, true, 4, 0, 3, 0);
        due("both from a", x.both(0, 0), 1);
        due("both from all", x.both(0, NONE), 2);
        Checks.strip(x, true, 3, 0, 3, 0);
        due("none by both", x.both(0, NONE), 0);
        due("both: no card", x.both(-1, 0), NONE);
        due("both: no corner", x.both(0, 4), NONE);
        Checks.strip(x, false, new int[24]);
        due("all of 12 rows", x.woven(0, NONE, 0), 4 * 4096);
        Checks.text(x, FOUR + "card k strung s a b c d;twist 1;");
        Checks.strip(x, false, 0, 0, 0, 0);
        due("within twist 1", x.woven(0, 3, 0), 4);
        x.shift(0);
        Checks.strip(x, false, 3);
        due("by the threads as they are now", x.woven(0, 0, 0), 1);
    }

    private static void barredApartNearestSure() {
        QueenBelt x = loom();
        due("barred without a strip", x.barred(0), NONE);
        due("apart without a strip", x.apart(), NONE);
        due("nearest without a strip", x.nearest(0), NONE);
        due("sure without a strip", x.sure(0, 0), NONE);
        Checks.strip(x, false, 1, 1, 0, 0, 3, 2, 0, 0);
        due("l is barred", x.barred(0), 1);
        due("at row 2", x.barred(1), 2);
        due("no what", x.barred(2), NONE);
        due("no what below", x.barred(-1), NONE);
        due("apart with one barred", x.apart(), NONE);
        due("k is sure of nothing there", x.sure(0, 3), 0);
        due("l is barred", x.sure(1, 0), NONE);
        due("nearest k: of a and c none is up then", x.nearest(0), 0);
        due("nearest l: the first alone", x.nearest(1), 1);
        Checks.strip(x, false, 2, 2, 3, 1, 4, 4);
        due("k goes on, l too or back", x.barred(0), NONE);
        due("sure on", x.sure(0, 1), 1);
        due("sure on", x.sure(0, 2), 1);
        due("the first is free", x.sure(0, 0), 0);
        due("no row", x.sure(0, 3), NONE);
        due("no row below", x.sure(0, -1), NONE);
        due("no card", x.sure(2, 0), NONE);
        due("nearest k", x.nearest(0), 3);
        due("nearest of no card", x.nearest(2), NONE);
        due("nearest below", x.nearest(-2), NONE);
        due("nearest of all", x.nearest(NONE), x.nearest(0) + x.nearest(1));
        Checks.strip(x, false, 1, 4, 2, 3, 3, 4);
        due("k on on, l on back", x.apart(), 1);
        Checks.strip(x, false, 1, 4, 2, 3, 3, 2);
        due("k on on, l on on", x.apart(), 0);
        Checks.strip(x, false, 1, 3, 2, 4, 3, 1);
        due("k on on, l back back", x.apart(), 2);
        due("sure back", x.sure(1, 2), 2);
        Checks.strip(x, false, new int[12]);
        due("6 rows", x.apart(), 0);
        Checks.strip(x, false, new int[14]);
        due("7 rows", x.apart(), NONE);
    }

    private static void wrongAndMend() {
        QueenBelt x = loom();
        due("wrong without a strip", x.wrong(NONE), NONE);
        due("mend without a strip", x.mend(), NONE);
        Checks.strip(x, false, 2, 3, 3, 4, 3, 3);
        due("all as it is: none wrong", x.wrong(NONE), 0);
        due("all stay", x.mend(), 0);
        Checks.strip(x, false, 2, 3, 3, 2, 3, 1);
        due("l in row 1", x.wrong(0), 101);
        due("it alone", x.wrong(NONE), 1);
        due("no second", x.wrong(1), NONE);
        due("no such", x.wrong(-2), NONE);
        due("row 1 and 2 are mended", x.mend(), 2);
        Checks.strip(x, false, 2, 3, 3, 4, 1, 3);
        due("k stayed in row 2", x.wrong(NONE), 0);
        due("row 2 is mended", x.mend(), 1);
        Checks.strip(x, false, 0, 0);
        due("either in row 0", x.wrong(NONE), 2);
        due("the second", x.wrong(1), 100);
        due("as far as both go", x.mend(), 2);
        Checks.strip(x, false, new int[8]);
        due("fewer rows than the strip", x.wrong(NONE), NONE);
        due("nothing to mend", x.mend(), 0);
        Checks.strip(x, false, 1, 0);
        due("all is mended", x.mend(), 3);
    }

    private static void ask() {
        QueenBelt x = loom();
        String[] asked = {"total row", "most row+1", "least 5-row*2", "often still=1", "first back>0",
            "last row<2", "first row>5", "last not all", "total 7/2", "total (0-7)/2", "total 7/(0-2)",
            "total 5/0", "total 9999*9999", "least 0-9999*9999", "total (0-9999*9999)*2-5",
            "most 9999*9999+9-9999", "most twist 0", "total twist 1", "total slant 1",
            "most front 2", "most behind(0-1)", "most slant 2", "total twist 9", "most 2+3*4",
            "most 8/3*3", "most 9-3-2", "most min(3,row)", "most max(3,row)", "often all or not all",
            "often not all and all or all", "often all or all and not all",
            "often not [all or all]", "often not row=1", "total front 0", "total behind 1",
            "most front front 0", "often front 0=2 and slant 0=0"};
        long[] due = {3, 3, 1, 1, 1, 1, -1, -1, 9, -12, -12, 0, 3000000, -1000000, -3000000, 990001, 2, 2,
            5, 99, 99, 0, 0, 14, 6, 4, 2, 3, 3, 3, 3, 0, 2, 5, 1, 99, 1};
        for (int i = 0; i < asked.length; i++) {
            due(asked[i], Checks.ask(x, asked[i]), due[i]);
            due("fault of " + asked[i], x.fault(0), 0);
        }
        due("with a fault", Checks.ask(x, "total"), QueenBelt.NOTHING);
        due("the tape goes", x.end(1), false);
        QueenBelt y = new QueenBelt();
        due("without rows", Checks.ask(y, "least row-5"), 0);
        due("first of none", Checks.ask(y, "first all"), NONE);
        due("last of none", Checks.ask(y, "last all"), NONE);
        due("often of none", Checks.ask(y, "often all"), 0);
    }

    private static void images() {
        QueenBelt x = loom();
        int[] told = Checks.summed(3, 0, 0, 1, 2, 3, 1, 3, 2, 1, 0, 1, 1, 1, 2, 0, 1);
        int[] got = Checks.image(x);
        due("as many bytes", got.length, told.length);
        for (int i = 0; i < told.length && i < got.length; i++) {
            due("octet " + i, got[i], told[i]);
        }
        due("no octet", x.octet(told.length), NONE);
        due("no octet below", x.octet(-1), NONE);
        x.turn(0, NONE);
        due("the latest image", x.octet(0), 3);
        Checks.strip(x, false, 1, 1);
        x.shift(1);
        due("on", Checks.on(x, told), true);
        due("rows", x.loom(5), 3);
        due("threads", x.card(1, 0), 3);
        due("nothing can be undone", x.undo(), false);
        due("the strip stays", x.loom(11), 1);
        due("any turns", Checks.on(x, Checks.summed(1, 1, 3, 3, 3, 3, 0, 0, 0, 0, 0, 2, 0)), true);
        due("strung z", x.card(0, 4), 1);
        due("colours", x.card(0, 0) * 10 + x.card(1, 3), 30);
        due("turns", x.belt(0, 0, 3) * 10 + x.belt(0, 1, 3), 20);
        x.turn(0, NONE);
        int[][] bad = {
            {1, 2, 0, 0, 0, 0, 0, 0, 0, 0, 0, 1, 1},
            {1, 0, 4, 0, 0, 0, 0, 0, 0, 0, 0, 1, 1},
            {1, 0, 0, 0, 0, 0, 0, 0, 0, 0, 0, 1, 3},
            {2, 0, 0, 0, 0, 0, 0, 0, 0, 0, 0, 1, 1},
            {0, 0, 0, 0, 0, 0, 0, 0, 0, 0, 0, 1, 1},
            {0, 0, 0, 0, 0, 0},
            {}};
        for (int[] one : bad) {
            due("no image", Checks.on(x, Checks.summed(one)), false);
            due("the tape goes", x.end(1), false);
        }
        told[told.length - 1] ^= 1;
        due("the last byte", Checks.on(x, told), false);
        due("no bytes", Checks.on(x), false);
        due("all stays", x.loom(5) * 10 + x.loom(10), 21);
        x = Checks.loom("colour a;card k strung s a a a a;twist 1;");
        due("to the twist", Checks.on(x, Checks.summed(2, 0, 0, 0, 0, 0, 2, 1)), true);
        due("beyond it", Checks.on(x, Checks.summed(2, 0, 0, 0, 0, 0, 1, 1)), false);
        due("below it", Checks.on(x, Checks.summed(2, 0, 0, 0, 0, 0, 2, 2)), false);
        due("its rows stay", x.belt(0, 0, 3), 2);
        int[] most = new int[66];
        most[0] = 60;
        due("60 rows", Checks.on(x, Checks.summed(most)), true);
        most = new int[67];
        most[0] = 61;
        due("61 rows", Checks.on(x, Checks.summed(most)), false);
    }

    /** All numbers that are wrong somewhere, in every place of every call: nothing throws. */
    private static void anyNumber() {
        int[] odd = {LOW, -1000, -2, -1, 0, 1, 2, 3, 4, 5, 6, 7, 8, 12, 59, 60, 61, 100, 1600, HIGH};
        QueenBelt[] all = {new QueenBelt(), loom(), Checks.loom("weave on back;")};
        Checks.strip(all[1], false, 1, 0, 2, 0);
        for (QueenBelt x : all) {
            for (int i : odd) {
                for (int k : odd) {
                    x.pack(i, k);
                    x.turn(i, k);
                    x.both(i, k);
                    x.sure(i, k);
                    x.card(i, k);
                    x.shown(i, k > 0);
                    x.shift(i);
                    x.string(k);
                    x.loom(i);
                    x.fault(k);
                    x.nearest(i);
                    x.wrong(k);
                    x.octet(i);
                    x.barred(k);
                    x.feed(i, k, i, k, i);
                    x.end(i);
                    x.strip(k > 0);
                    for (int n : odd) {
                        x.letter(i, k, n);
                        x.belt(i, k, n);
                        x.woven(i, k, n);
                    }
                }
            }
            due("it still answers", x.loom(3), 40);
        }
    }

    public static void main(String[] args) {
        newObject();
        feedAndEnd();
        text();
        fault();
        loomAndNames();
        cardAndPack();
        belt();
        turn();
        actsAndUndo();
        manyActs();
        strip();
        woven();
        barredApartNearestSure();
        wrongAndMend();
        ask();
        images();
        anyNumber();
        CHECKS.end();
    }
}
