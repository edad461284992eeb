/** Promises 1 to 9 and THE LOOM: each edge that the document names, and a step beyond it. */
public final class LoomEdgeTests {
    private static final Checks CHECKS = new Checks();
    private static final int NONE = QueenBelt.NONE;
    private static final int LOW = Integer.MIN_VALUE;
    private static final int HIGH = Integer.MAX_VALUE;

    private static void due(String what, long got, long want) {
        CHECKS.due(what, got, want);
    }

    private static void due(String what, boolean got, boolean want) {
        CHECKS.due(what, got, want);
    }

    // Promise 1: no cards, no belt.

    private static void newObjectHasNone() {
        QueenBelt x = new QueenBelt();
        for (int i = 0; i <= 12; i++) {
            due("1: loom " + i, x.loom(i), i == 3 ? 40 : i == 6 ? NONE : i == 9 ? 1 : 0);
        }
        for (int i = 0; i < 9; i++) {
            due("1: letter", x.letter(i % 3, 0, 0), NONE);
            due("1: card", x.card(0, i), NONE);
            due("1: belt", x.belt(0, 0, i), NONE);
            due("1: woven", x.woven(0, i - 2, 0), NONE);
            due("1: turn", x.turn(i % 3, i / 3 - 1), NONE);
        }
        due("1: pack", x.pack(0, 0), NONE);
        due("1: shown", x.shown(0, false), NONE);
        due("1: shown behind", x.shown(0, true), NONE);
        due("1: unweave", x.unweave(), false);
        due("1: shift", x.shift(0), false);
        due("1: string", x.string(0), false);
        due("1: undo", x.undo(), false);
        due("1: strip", Checks.strip(x, false, 0), NONE);
        due("1: strip behind", Checks.strip(x, true, 0), NONE);
        due("1: barred", x.barred(0), NONE);
        due("1: its row", x.barred(1), NONE);
        due("1: apart", x.apart(), NONE);
        due("1: both", x.both(0, NONE), NONE);
        due("1: nearest", x.nearest(0), NONE);
        due("1: nearest of all", x.nearest(NONE), NONE);
        due("1: wrong", x.wrong(0), NONE);
        due("1: how many wrong", x.wrong(NONE), NONE);
        due("1: mend", x.mend(), NONE);
        due("1: sure", x.sure(0, 0), NONE);
        due("1: fault", x.fault(0), 0);
        due("1: place", x.fault(1), NONE);
        due("1: octet", x.octet(0), NONE);
        due("1: image", x.image(), 2);
        due("1: the tape is empty", x.end(1), false);
    }

    // Promise 2: twenty bytes, of each number the highest first.

    private static void feedPutsTheHighestFirst() {
        QueenBelt x = new QueenBelt();
        due("2: twenty", x.feed(0x636f6c6f, 0x75722061, 0x623b636f, 0x6c6f7572, 0x2063643b), 20);
        due("2: they are one text", x.text(), 2);
        int[] letters = {x.letter(0, 0, 0), x.letter(0, 0, 1), x.letter(0, 1, 0), x.letter(0, 1, 1)};
        for (int i = 0; i < 4; i++) {
            due("2: letter " + i, letters[i], i + 1);
        }
        x.feed(0x2020203b, 0, 0, 0, 0);
        due("2: the lowest last", x.text(), NONE);
        due("2: it stands there", x.fault(1), 3);
    }

    private static void feedComesBehind() {
        QueenBelt x = new QueenBelt();
        due("2: twenty", x.feed(0x20202020, 0x20202020, 0x20202020, 0x20202020, 0x2020636f), 20);
        due("2: forty", x.feed(0x6c6f7572, 0x20616263, 0x64656620, 0x20202020, 0x2020203b), 40);
        due("2: across both", x.text(), 1);
        due("2: the last letter", x.letter(0, 0, 5), 6);
    }

    /** As an image, the sum is a byte from 128 on in each of the four places of a number. */
    private static void feedTakesHighBytes() {
        QueenBelt x = new QueenBelt();
        x.feed(0x3c98ffff, HIGH, LOW, -1, 0);
        due("2: byte 152", x.end(2), true);
        due("2: is the sum", x.on(), true);
        due("2: and the rows", x.loom(5), 60);
        for (int cards = 1; cards <= 4; cards++) {
            QueenBelt y = Checks.loom(Checks.cards(cards));
            int[] bytes = new int[1 + 5 * cards];
            int[] all = Checks.summed(bytes);
            for (int i = 0; i < 36 && all[all.length - 1] < 128; i++) {
                bytes[2] = i % 6;
                bytes[3] = i / 6;
                all = Checks.summed(bytes);
            }
            due("2: there is one", all[all.length - 1] >= 128, true);
            due("2: a high byte at " + (all.length - 1), Checks.on(y, all), true);
        }
    }

    private static void feedUpTo1600() {
        QueenBelt x = new QueenBelt();
        String text = Checks.many("twist 3;", 69) + Checks.many(" ", 1600 - 69 * 8 - 8) + "twist 4;";
        Checks.put(x, text);
        due("2: full", x.end(1600), true);
        due("2: one too many", x.feed(0x21212121, 0x21212121, 0x21212121, 0x21212121, 0x21212121), NONE);
        due("2: nothing came", x.end(1601), false);
        due("2: all is as it was", x.text(), 70);
        due("2: to its last byte", x.loom(3), 4);
        for (int n = 1600; n >= 1560; n--) {
            Checks.put(x, new int[1600]);
            due("2: end " + n, x.end(n), true);
            due("2: feed behind " + n, x.feed(0, 0, 0, 0, 0), n <= 1580 ? n + 20 : NONE);
            due("2: it has " + n, x.end(n <= 1580 ? n + 20 : n), true);
            due("2: not more than " + n, x.end(n <= 1580 ? n + 21 : n + 1), false);
        }
        x.end(0);
        due("2: again from empty", x.feed(LOW, HIGH, -1, 0, 1), 20);
    }

    // Promise 3: the first n bytes alone; so many, or n below 0.

    private static void endKeepsTheFirst() {
        QueenBelt x = new QueenBelt();
        due("3: 0 of none", x.end(0), true);
        due("3: 1 of none", x.end(1), false);
        int[] wrong = {-1, LOW, 20, 21, 1600, 1601, HIGH};
        Checks.put(x, "colour a;colour b;!");
        for (int n : wrong) {
            due("3: end " + n, x.end(n), false);
        }
        due("3: nothing was done", x.end(19), true);
        due("3: all of them again", x.end(19), true);
        due("3: without the last", x.end(18), true);
        due("3: it is gone", x.end(19), false);
        due("3: two are left", x.text(), 2);
        Checks.put(x, "colour a;colour b;!");
        due("3: with the last", x.text(), NONE);
        due("3: it is at its place", x.fault(1), 18);
        Checks.put(x, "colour a;colour b;!");
        due("3: the first nine", x.end(9), true);
        due("3: are one", x.text(), 1);
        due("3: and gone", x.end(1), false);
        Checks.put(x, "colour a;");
        due("3: none", x.end(0), true);
        due("3: the empty text", x.text(), 0);
        Checks.put(x, "twist 4;");
        x.end(6);
        x.feed(0x373b2020, 0x20202020, 0x20202020, 0x20202020, 0x20202020);
        due("3: what comes is behind the first", x.text(), 1);
        due("3: so it is told", x.loom(3), 7);
    }

    // Promise 4: the tape goes; statements; all stays with a fault; what ends without one.

    private static final String FULL = Checks.cards(3) + "pack p ka kc;pack q kb;twist 3;"
            + "weave on on p still q back on on on on;";

    private static QueenBelt full() {
        QueenBelt x = Checks.loom(FULL);
        Checks.strip(x, false, 2, 2, 2, 0, 0, 0);
        Checks.strip(x, true, 4, 4, 4, 0, 0, 0);
        x.shift(1);
        x.turn(1, 0);
        x.image();
        return x;
    }

    private static void textStaysWithAFault() {
        QueenBelt x = full();
        String was = Checks.stateOf(x);
        String[] bad = {"!", "colour", "colour a;twist 0;", "colour a;colour a;",
            "weave [[[[[[[[on]]]]]]]];", "weave on;weave on;", Checks.many("twist 1;", 71),
            Checks.cards(1) + "weave " + Checks.many("on ", 61) + ";",
            Checks.cards(8) + "pack z ka;", Checks.cards(8) + "pack y ka kb;weave on y on on"};
        int[] faults = {1, 1, 2, 3, 4, 5, 5, 5, 1, 1};
        for (int i = 0; i < bad.length; i++) {
            due("4: " + bad[i], Checks.text(x, bad[i]), NONE);
            due("4: fault of " + bad[i], x.fault(0), faults[i]);
            due("4: the tape goes", x.end(1), false);
            CHECKS.same("4: all stays", Checks.stateOf(x), was);
        }
        due("4: an act can still be undone", x.undo(), true);
        due("4: and the other", x.undo(), true);
    }

    private static void textWithoutAFault() {
        QueenBelt x = full();
        String image = Checks.octetsOf(x);
        due("4: acts and strips", x.loom(10) * 100 + x.loom(11) * 10 + x.loom(12), 222);
        due("4: the same text", Checks.text(x, FULL), 13);
        due("4: the tape goes", x.end(1), false);
        due("4: nothing can be undone", x.undo(), false);
        due("4: none to undo", x.loom(10), 0);
        due("4: no strip in front", x.loom(11), 0);
        due("4: none behind", x.loom(12), 0);
        due("4: none to ask", x.mend(), NONE);
        due("4: threads as told", x.card(1, 0), 0);
        due("4: rows as told", x.loom(5), 5);
        CHECKS.same("4: the latest image stays", Checks.octetsOf(x), image);
        CHECKS.same("4: as a new one", Checks.beltOf(x), Checks.beltOf(Checks.loom(FULL)));
        due("4: the empty text", Checks.text(x, ""), 0);
        CHECKS.same("4: is an empty loom", Checks.beltOf(x), Checks.beltOf(new QueenBelt()));
        due("4: twist is 40 again", x.loom(3), 40);
        due("4: all could", x.loom(6), NONE);
        due("4: blanks", Checks.text(x, "\n \n  "), 0);
    }

    private static void textCountsStatements() {
        QueenBelt x = new QueenBelt();
        for (int i = 1; i <= 70; i++) {
            due("4: statements", Checks.text(x, Checks.many("twist 9;", i)), i);
        }
        due("4: a 71st", Checks.text(x, Checks.many("twist 9;", 71)), NONE);
        char[] signs = {';', '!', '5', 'x', '[', 'z', 0, 9, 13, 127, 200, 255};
        for (char sign : signs) {
            due("4: a 71st, whatever", Checks.text(x, Checks.many("twist 9;", 70) + "\n " + sign), NONE);
            due("4: its fault", x.fault(0), 5);
            due("4: its place", x.fault(1), 562);
        }
        due("4: blanks behind the 70th", Checks.text(x, Checks.many("twist 9;", 70) + "\n "), 70);
    }

    // Promise 5: of the latest text() or ask(); 0 without, and ahead of any.

    private static void faultOfTheLatest() {
        QueenBelt x = new QueenBelt();
        int[] wrong = {LOW, -2, -1, 2, 3, HIGH};
        for (int what : wrong) {
            due("5: ahead of any, " + what, x.fault(what), NONE);
        }
        Checks.text(x, "twist 99;");
        for (int what : wrong) {
            due("5: with a fault, " + what, x.fault(what), NONE);
        }
        due("5: of the text", x.fault(0) * 100 + x.fault(1), 206);
        due("5: told again", x.fault(0) * 100 + x.fault(1), 206);
        Checks.ask(x, "often all");
        due("5: the question has none", x.fault(0), 0);
        due("5: and no place", x.fault(1), NONE);
        Checks.ask(x, "often [[[[[[[all");
        due("5: this one has", x.fault(0) * 100 + x.fault(1), 412);
        Checks.strip(x, false, 7);
        Checks.on(x, 7);
        x.turn(9, 9);
        x.end(-1);
        x.image();
        due("5: no other call tells", x.fault(0) * 100 + x.fault(1), 412);
        Checks.text(x, "colour a;");
        due("5: this text has none", x.fault(0), 0);
        due("5: and no place", x.fault(1), NONE);
        Checks.text(x, ";");
        due("5: place 0", x.fault(1), 0);
        Checks.text(x, Checks.many(" ", 1600));
        due("5: none in 1600 blanks", x.fault(0), 0);
        Checks.text(x, Checks.many(" ", 1599) + ";");
        due("5: place 1599", x.fault(1), 1599);
        Checks.text(x, Checks.many(" ", 1594) + "colour");
        due("5: place 1600, it ends too soon", x.fault(1), 1600);
    }

    // Promise 6: what a loom tells, and none for others.

    private static void loomTellsNoOthers() {
        QueenBelt x = full();
        int[] wrong = {LOW, -100, -2, -1, 13, 14, 100, HIGH};
        for (int what : wrong) {
            due("6: loom " + what, x.loom(what), NONE);
        }
    }

    private static void loomAtItsLargest() {
        StringBuilder text = new StringBuilder(Checks.cards(8));
        for (char c = 'p'; c <= 'u'; c++) {
            text.append("pack ").append(c == 's' ? "ss" : c).append(" ka;");
        }
        text.append("twist 40;weave ").append(Checks.many("on back ", 30)).append(";");
        QueenBelt x = Checks.loom(text.toString());
        int[] want = {6, 8, 6, 40, 60, 60, NONE, 0, 2, 1, 0, 0, 0};
        for (int i = 0; i < want.length; i++) {
            due("6: at most, loom " + i, x.loom(i), want[i]);
        }
    }

    private static void twistIsTheLastTold() {
        String[] told = {"", "twist 1;", "twist 40;", "twist 0001;", "twist 5;twist 7;", "twist 7;twist 5;",
            "twist 3;weave on;twist 2;", "twist 40;twist 1;twist 39;"};
        int[] want = {40, 1, 40, 1, 7, 5, 2, 39};
        for (int i = 0; i < told.length; i++) {
            due("6: twist of " + told[i], Checks.loom(told[i]).loom(3), want[i]);
        }
        String one = Checks.cards(1);
        due("6: the last one binds", Checks.loom(one + "twist 1;weave on on on;twist 2;").loom(5), 2);
        due("6: 40 without", Checks.loom(one + "weave " + Checks.many("on ", 50) + ";").loom(5), 40);
    }

    private static void lettersAreToldTwiceTwice() {
        String[] told = {"on", "on back", "twice on", "[on back]", "twice [on back]", "twice twice on",
            "on twice back on", "[on [on] [[on]]]", "twice [on twice [back twice on]]",
            "twice twice twice twice twice [on]", "twice twice twice twice [on back on]"};
        int[] want = {1, 2, 2, 2, 4, 4, 4, 3, 14, 32, 48};
        for (int i = 0; i < told.length; i++) {
            QueenBelt x = Checks.loom(Checks.cards(1) + "weave " + told[i] + ";");
            due("6: letters of " + told[i], x.loom(4), want[i]);
        }
        QueenBelt x = Checks.loom(Checks.cards(1) + "weave twice [on twice [back twice on]];");
        String turns = "12112111211211";
        for (int row = 0; row < 14; row++) {
            due("6: row " + row, x.belt(row, 0, 3), turns.charAt(row) - '0');
        }
        due("6: no letters", Checks.loom("colour a;").loom(4), 0);
    }

    private static void stopped(String weave, int rows, int which) {
        QueenBelt x = Checks.loom(Checks.cards(2) + "pack p ka;twist 1;weave " + weave + ";");
        due("6: rows of " + weave, x.loom(5), rows);
        due("6: could not be in " + weave, x.loom(6), which);
    }

    private static void whichCouldNotBe() {
        stopped("on", 1, NONE);
        stopped("on on", 1, 1);
        stopped("back back", 1, 1);
        stopped("on back", 2, NONE);
        stopped("on p on", 1, 1);
        stopped("on still p", 1, 1);
        stopped("back still p", 2, NONE);
        stopped("on p still p on p", 2, 2);
        stopped("on p still p back p", 3, NONE);
        stopped("on p back p on p on p", 3, 3);
        stopped("on on back back back", 1, 1);
        stopped(Checks.many("on back ", 29) + "on on", 59, 59);
        stopped(Checks.many("on back ", 30), 60, NONE);
        QueenBelt x = Checks.loom(Checks.cards(1) + "weave " + Checks.many("on ", 60) + ";");
        due("6: the 41st", x.loom(6), 40);
        due("6: 40 rows", x.loom(5), 40);
        x = Checks.loom(Checks.cards(1) + "weave " + Checks.many("back ", 41) + ";");
        due("6: the 41st back", x.loom(6), 40);
        Checks.text(x, Checks.cards(1) + "weave on;");
        due("6: gone with a new loom", x.loom(6), NONE);
    }

    private static void joinsAndLeft() {
        int[] joins = {1, 4, 2, 4};
        for (int n = 1; n <= 40; n++) {
            QueenBelt x = Checks.loom(Checks.cards(1) + "weave " + Checks.many("on ", n) + ";");
            due("6: joins of on, " + n, x.loom(9), joins[n % 4]);
            due("6: left of on, " + n, x.loom(7), n);
            x = Checks.loom(Checks.cards(1) + "weave " + Checks.many("back ", n) + ";");
            due("6: joins of back, " + n, x.loom(9), joins[n % 4]);
            due("6: left of back, " + n, x.loom(7), n);
        }
        String two = Checks.cards(2) + "pack p ka;weave ";
        String[] told = {"on p", "still p", "still p on p on p on p on", "still p still p",
            "on p back p", "still p still p on p", "still p still p still p still p"};
        int[] join = {4, 4, 4, 2, 1, 4, 1};
        int[] left = {2, 1, 5, 2, 0, 2, 4};
        for (int i = 0; i < told.length; i++) {
            QueenBelt x = Checks.loom(two + told[i] + ";");
            due("6: joins of " + told[i], x.loom(9), join[i]);
            due("6: left of " + told[i], x.loom(7), left[i]);
        }
        QueenBelt x = Checks.loom(Checks.cards(8) + "pack p ka kb kc;weave " + Checks.many("on p ", 40) + ";");
        due("6: left of all, whatever the sign", x.loom(7), 320);
        due("6: no rows, no twist", Checks.loom(Checks.cards(8)).loom(7), 0);
        due("6: no rows join at once", Checks.loom(Checks.cards(8)).loom(9), 1);
    }

    private static void rhymeOfPart(int part, String letters) {
        QueenBelt x = Checks.loom(Checks.cards(2) + "pack p ka kb;weave "
                + Checks.many(letters, 60 / part) + ";");
        due("6: all rows of " + letters, x.loom(5), 60);
        due("6: rhyme of 60 rows of " + letters, x.loom(8), part);
    }

    private static void rhymes() {
        String[] told = {"on", "on on", "on back", "on back on", "on back on back", "on back back on",
            "on on back on on back", "on on back on on on", "on back on back on", "on on on on on on on",
            "on p back on p back", "on p on", "still p on", "on p back p on p back p on p", "back back back on"};
        int[] want = {1, 1, 2, 3, 2, 4, 3, 6, 5, 1, 2, 2, 2, 5, 4};
        for (int i = 0; i < told.length; i++) {
            QueenBelt x = Checks.loom(Checks.cards(2) + "pack p ka;weave " + told[i] + ";");
            due("6: rhyme of " + told[i], x.loom(8), want[i]);
        }
        for (int part = 1; part <= 60; part++) {
            if (60 % part == 0 && part % 2 == 1) {
                rhymeOfPart(part, Checks.many("on back ", part / 2) + "still p ");
            } else if (60 % part == 0) {
                rhymeOfPart(part, Checks.many("on back ", part / 2 - 1) + "on still p ");
            }
        }
        QueenBelt x = Checks.loom(Checks.cards(1) + "weave " + Checks.many("on back ", 29) + "on on;");
        due("6: all 60", x.loom(8), 60);
        x.unweave();
        due("6: 59 rows", x.loom(8), 59);
        x.unweave();
        due("6: 58 rows", x.loom(8), 2);
        due("6: without rows", Checks.loom(Checks.cards(1)).loom(8), 0);
    }

    private static void stripsAndActsAreCounted() {
        QueenBelt x = Checks.loom(Checks.cards(1));
        for (int rows = 1; rows <= 12; rows++) {
            Checks.strip(x, false, new int[rows]);
            Checks.strip(x, true, new int[13 - rows]);
            due("6: in front", x.loom(11), rows);
            due("6: behind", x.loom(12), 13 - rows);
        }
        for (int i = 1; i <= 25; i++) {
            x.string(0);
            due("6: acts, " + i, x.loom(10), Math.min(20, i));
        }
    }

    // Promise 7: letters 0 to 5; 0 behind the name; none when there is none such.

    private static void letters() {
        QueenBelt x = Checks.loom("colour a;colour zz;colour az;colour yza;colour abcdef;colour zyxwvu;"
                + "card stu strung s a a a a;pack onn stu;");
        String[] names = {"a", "zz", "az", "yza", "abcdef", "zyxwvu"};
        for (int i = 0; i < names.length; i++) {
            for (int k = 0; k < 6; k++) {
                int want = k < names[i].length() ? names[i].charAt(k) - 'a' + 1 : 0;
                due("7: letter " + k + " of " + names[i], x.letter(0, i, k), want);
            }
        }
        due("7: of a card", x.letter(1, 0, 2), 21);
        due("7: of a pack", x.letter(2, 0, 2), 14);
        int[] wrong = {LOW, -1, 6, 7, 32, HIGH};
        for (int k : wrong) {
            due("7: no letter " + k, x.letter(0, 4, k), NONE);
            due("7: no colour " + k, x.letter(0, k, 0), NONE);
            due("7: no card " + k, x.letter(1, k, 0), NONE);
            due("7: no pack " + k, x.letter(2, k, 0), NONE);
            due("7: no kind " + k, x.letter(k, 0, 0), NONE);
        }
        due("7: no second card", x.letter(1, 1, 0), NONE);
        due("7: no second pack", x.letter(2, 1, 0), NONE);
        due("7: no kind 3", x.letter(3, 0, 0), NONE);
        due("7: no letter 6 behind a short one", x.letter(0, 0, 6), NONE);
        Checks.text(x, "colour b;");
        due("7: the old second is gone", x.letter(0, 1, 0), NONE);
        due("7: the old card too", x.letter(1, 0, 0), NONE);
        due("7: the new one", x.letter(0, 0, 0), 2);
    }

    // Promise 8: a card, its corner up, its twist; none when there is none such, or for others.

    private static void cards() {
        QueenBelt x = Checks.loom(Checks.cards(8));
        for (int card = 0; card < 8; card++) {
            int[] want = {0, 1, 2, 3, card % 2, 0, 100, 0};
            for (int what = 0; what < 8; what++) {
                due("8: card " + card + ", " + what, x.card(card, what), want[what]);
            }
        }
        int[] wrong = {LOW, -1, 8, 9, 100, HIGH};
        for (int i : wrong) {
            due("8: what " + i, x.card(7, i), NONE);
            for (int what = 0; what < 8; what++) {
                due("8: no card " + i, x.card(i, what), NONE);
            }
        }
        due("8: one behind the last", Checks.loom(Checks.cards(3)).card(3, 0), NONE);
    }

    private static void cardsGoRound() {
        QueenBelt x = Checks.loom(Checks.cards(1));
        for (int n = 1; n <= 40; n++) {
            x.turn(0, NONE);
            due("8: corner after on, " + n, x.card(0, 5), n % 4);
            due("8: twist after on, " + n, x.card(0, 6), 100 + n);
        }
        due("8: no more", x.turn(0, NONE), NONE);
        due("8: never back", x.card(0, 7), 0);
        x = Checks.loom(Checks.cards(1));
        for (int n = 1; n <= 40; n++) {
            x.turn(1, NONE);
            due("8: corner after back, " + n, x.card(0, 5), (400 - n) % 4);
            due("8: twist after back, " + n, x.card(0, 6), 100 - n);
            due("8: backs, " + n, x.card(0, 7), n);
        }
        due("8: no more back", x.turn(1, NONE), NONE);
        x.unweave();
        due("8: backs of what is left", x.card(0, 7), 39);
    }

    // Promise 9: of a pack or not; none when there are none such.

    private static void packs() {
        StringBuilder text = new StringBuilder(Checks.cards(8));
        for (int p = 0; p < 6; p++) {
            text.append("pack p").append((char) ('a' + p));
            for (int c = 0; c < 8; c++) {
                text.append((c + p) % 3 == 0 || p == 5 ? " k" + (char) ('a' + c) : "");
            }
            text.append(";");
        }
        QueenBelt x = Checks.loom(text.toString());
        for (int p = 0; p < 6; p++) {
            for (int c = 0; c < 8; c++) {
                due("9: pack " + p + ", card " + c, x.pack(p, c), (c + p) % 3 == 0 || p == 5 ? 1 : 0);
            }
        }
        int[] wrong = {LOW, -1, 8, 9, 32, HIGH};
        for (int i : wrong) {
            due("9: no pack " + i, x.pack(i, 0), NONE);
            due("9: no card " + i, x.pack(5, i), NONE);
            due("9: neither " + i, x.pack(i, i), NONE);
        }
        due("9: no seventh", x.pack(6, 0), NONE);
        due("9: no packs", Checks.loom(Checks.cards(8)).pack(0, 0), NONE);
        due("9: no fourth card", Checks.loom(Checks.cards(3) + "pack p ka;").pack(0, 3), NONE);
    }

    public static void main(String[] args) {
        newObjectHasNone();
        feedPutsTheHighestFirst();
        feedComesBehind();
        feedTakesHighBytes();
        feedUpTo1600();
        endKeepsTheFirst();
        textStaysWithAFault();
        textWithoutAFault();
        textCountsStatements();
        faultOfTheLatest();
        loomTellsNoOthers();
        loomAtItsLargest();
        twistIsTheLastTold();
        lettersAreToldTwiceTwice();
        whichCouldNotBe();
        joinsAndLeft();
        rhymes();
        stripsAndActsAreCounted();
        letters();
        cards();
        cardsGoRound();
        packs();
        CHECKS.end();
    }
}
