/** The faults of looms and questions, each with its place (promises 4, 5, 26). */
public final class FaultTests {
    private static final Checks CHECKS = new Checks();
    private static final String BASE = "colour r;card k strung s r r r r;card l strung z r r r r;pack p k;";

    private static void loomFault(String text, int fault, int place) {
        QueenBelt x = Checks.loom("colour old;");
        CHECKS.due("text " + text, Checks.text(x, text), -1);
        CHECKS.due("fault of " + text, x.fault(0), fault);
        CHECKS.due("place in " + text, x.fault(1), place);
        CHECKS.due("what stays", x.loom(0), 1);
        CHECKS.due("the tape goes", x.end(1), false);
    }

    /** A fault whose place is at the mark ^, which is no part of the text. */
    private static void at(int fault, String marked) {
        int place = marked.indexOf('^');
        loomFault(marked.substring(0, place) + marked.substring(place + 1), fault, place);
    }

    private static void weaveAt(int fault, String marked) {
        at(fault, BASE + "weave " + marked);
    }

    private static void fine(String text, int statements) {
        QueenBelt x = new QueenBelt();
        CHECKS.due("text " + text, Checks.text(x, text), statements);
        CHECKS.due("no fault of " + text, x.fault(0), 0);
        CHECKS.due("no place in " + text, x.fault(1), -1);
    }

    private static void questionAt(int fault, String marked) {
        int place = marked.indexOf('^');
        String text = marked.substring(0, place) + marked.substring(place + 1);
        QueenBelt x = Checks.loom(BASE);
        CHECKS.due("ask " + text, Checks.ask(x, text), QueenBelt.NOTHING);
        CHECKS.due("fault of " + text, x.fault(0), fault);
        CHECKS.due("place in " + text, x.fault(1), place);
        CHECKS.due("the tape goes", x.end(1), false);
    }

    private static void goodQuestion(String text) {
        QueenBelt x = Checks.loom(BASE);
        Checks.ask(x, text);
        CHECKS.due("fault of " + text, x.fault(0), 0);
        CHECKS.due("place in " + text, x.fault(1), -1);
    }

    private static void badBytes() {
        at(1, "^;");
        at(1, "^x;");
        at(1, "^colou r;");
        at(1, "^colours r;");
        at(1, "^Colour r;");
        at(1, "^\tcolour r;");
        at(1, "colour^");
        at(1, "colour   ^");
        at(1, "colour ^;");
        at(1, "colour ^5;");
        at(1, "colour a^");
        at(1, "colour a^5;");
        at(1, "colour a ^b;");
        at(1, "colour ^strung;");
        at(1, "colour ^z;");
        at(1, "colour abcdef^g;");
        at(1, "colour abcdef^ghij");
        at(1, "colour colour^s;");
        at(1, "colour a;^;");
        at(1, "colour a;^\u00e9");
        at(1, "card a ^string s");
        at(1, "card a strung ^t");
        at(1, "card a strung ^ss");
        at(1, "card a strung s ^s");
        at(1, "colour a;card b strung s a a a ^;");
        at(1, "colour a;card b strung s a a a a ^a;");
        at(1, "colour a;card b strung s a a a abcdef^g;");
        at(1, "twist^5;");
        at(1, "twist^12345;");
        at(1, "twist ^x;");
        at(1, "twist 1234^5;");
        at(1, "twist 9999^9;");
        at(1, "twist 5^x;");
        at(1, "twist 5 ^5;");
        at(1, BASE + "pack q ^;");
        at(1, BASE + "pack q k ^on;");
        at(1, BASE + "pack q k ^5;");
        at(1, BASE + "pack q k abcdef^gh;");
        at(1, BASE + "pack ^pack;");
        weaveAt(1, "^");
        weaveAt(1, "^;");
        weaveAt(1, "^p;");
        weaveAt(1, "^abcdefgh;");
        weaveAt(1, "[^];");
        weaveAt(1, "[on^;");
        weaveAt(1, "[on] ^p;");
        weaveAt(1, "on^];");
        weaveAt(1, "on^5;");
        weaveAt(1, "on ^card;");
        weaveAt(1, "on p ^p;");
        weaveAt(1, "still ^on;");
        weaveAt(1, "still ^;");
        weaveAt(1, "still ^[on];");
        weaveAt(1, "twice ^;");
        weaveAt(1, "twice ^p;");
        weaveAt(1, "back abcdef^g;");
        weaveAt(1, "on ^,on;");
    }

    /** A statement that ends too soon, by its ; or by the text's end. */
    private static void endsTooSoon() {
        String[] parts = {"colour", " a", ";", "card", " k", " strung", " s", " a", " a", " a", " a", ";",
            "pack", " p", " k", ";", "twist", " 5", ";", "weave", " twice", " [", " on", " p", " ]", " still",
            " p", ";"};
        StringBuilder ahead = new StringBuilder();
        for (int i = 0; i < parts.length; i++) {
            boolean mayEnd = i == 0 || parts[i - 1].equals(";");
            boolean mayClose = parts[i].equals(";") || parts[i].equals(" still");
            if (mayEnd) {
                fine(ahead.toString(), Checks.count(ahead, ';'));
            } else {
                at(1, ahead + "^");
                at(1, ahead + " \n ^");
            }
            if (!mayClose) {
                at(1, ahead + "^;");
            }
            at(1, ahead + "^!");
            at(1, ahead + "^\u00ff;");
            ahead.append(parts[i]);
        }
        fine(ahead.toString(), 5);
    }

    private static void blanks() {
        String[] parts = {"colour", " ", "a", "", ";", "", "card", " ", "k", " ", "strung", " ", "s", " ", "a",
            " ", "a", " ", "a", " ", "a", "", ";", "", "pack", " ", "p", " ", "k", "", ";", "", "twist", " ", "5",
            "", ";", "", "weave", "", "[", "", "on", "", "[", "", "back", " ", "p", "", "]", "", "]", "", "[", "",
            "still", " ", "p", "", "]", "", ";", ""};
        String[] blanks = {" ", "\n", "  ", " \n \n", Checks.many(" ", 20)};
        StringBuilder least = new StringBuilder();
        for (String part : parts) {
            least.append(part);
        }
        fine(least.toString(), 5);
        for (String blank : blanks) {
            StringBuilder wide = new StringBuilder(blank);
            for (int i = 0; i < parts.length; i++) {
                wide.append(i % 2 == 1 ? blank : parts[i]);
            }
            fine(wide.toString(), 5);
        }
        char[] none = {0, 7, 9, 11, 12, 13, 31, 33, 127, 128, 160, 255};
        for (char sign : none) {
            at(1, "colour^" + sign + "a;");
            at(1, "colour a;^" + sign);
            at(1, "^" + sign + "colour a;");
        }
        at(1, "colour^5;");
        at(1, "card k ^strungs a a a a;");
        at(1, "^coloura;");
        at(1, "colour a^1;");
        at(1, BASE + "weave ^onp;");
        at(1, BASE + "weave ^twiceon;");
        at(3, BASE + "pack q ^kl;");
    }

    private static void ownWords() {
        String[] own = {"colour", "card", "strung", "s", "z", "pack", "twist", "weave", "on", "back",
            "still", "twice"};
        for (String word : own) {
            at(1, "colour ^" + word + ";");
            at(1, "colour a;card ^" + word + " strung s a a a a;");
            at(1, "colour a;card k strung z a a ^" + word + " a;");
            at(1, BASE + "pack ^" + word + " k;");
            at(1, BASE + "pack q ^" + word + ";");
            at(1, BASE + "pack q k ^" + word + ";");
            weaveAt(1, "still ^" + word + ";");
        }
        fine("colour all;colour first;colour row;colour olour;colour x;colour ss;", 6);
    }

    private static void badNumbersAndNames() {
        at(2, "twist ^0;");
        at(2, "twist ^0000;");
        at(2, "twist ^41");
        at(2, "twist ^9999;");
        fine("twist 1;", 1);
        fine("twist 0040;", 1);
        at(3, "colour a;colour ^a;");
        at(3, "colour a;card ^a strung s a a a a;");
        at(3, BASE + "pack ^p k;");
        at(3, BASE + "colour ^p;");
        at(3, BASE + "pack ^k k;");
        at(3, BASE + "pack ^k l;");
        at(3, BASE + "pack ^k;");
        at(3, BASE + "card ^k strung s r r r r;");
        at(1, BASE + "card ^strung s r r r r;");
        at(3, BASE + "pack q ^r;");
        at(3, BASE + "pack q ^q;");
        at(3, BASE + "pack q k ^p;");
        at(3, BASE + "pack q k ^k;");
        at(3, BASE + "pack q k l ^k;");
        at(3, "colour a;card b strung s a ^b");
        at(3, "card b strung s ^b");
        at(3, "card b strung z ^a a a a;colour a;");
        weaveAt(3, "on ^q;");
        weaveAt(3, "on ^k;");
        weaveAt(3, "back ^r;");
        weaveAt(3, "still ^abcdef;");
        at(3, "weave on ^p;pack p k;");
    }

    private static void tooManyOpen() {
        weaveAt(4, Checks.many("twice ", 7) + "^twice on;");
        weaveAt(4, Checks.many("twice ", 7) + "^twice x");
        weaveAt(1, Checks.many("twice ", 7) + "^x");
        weaveAt(4, Checks.many("[", 7) + "^[on;");
        weaveAt(4, Checks.many("twice [", 3) + "twice ^[on;");
        weaveAt(4, Checks.many("[twice ", 3) + "[on ^twice on];");
        weaveAt(4, "twice [twice [twice [on twice ^[on]]]];");
        fine(BASE + "weave " + Checks.many("[", 7) + "on" + Checks.many("]", 7) + ";", 5);
        fine(BASE + "weave " + Checks.many("twice on p ", 20) + ";", 5);
        fine(BASE + "weave twice [twice [twice on] twice [twice back twice on]];", 5);
        fine(BASE + "weave twice [twice [twice [on [on] twice on]]];", 5);
    }

    private static void tooMany() {
        String six = "colour a;colour b;colour c;colour d;colour e;colour f;";
        fine(six, 6);
        at(5, six + "^colour g;");
        at(5, six + "^colour ;");
        at(1, six + "^colourx g;");
        StringBuilder cards = new StringBuilder("colour a;");
        for (char c = 'b'; c <= 'i'; c++) {
            cards.append("card ").append(c).append(" strung s a a a a;");
        }
        fine(cards.toString(), 9);
        at(5, cards + "^card j strung s a a a a;");
        at(5, cards + "^card a");
        StringBuilder packs = new StringBuilder(cards);
        for (char c = 'j'; c <= 'o'; c++) {
            packs.append("pack ").append(c).append(" b c d e f g h i;");
        }
        fine(packs.toString(), 15);
        at(5, packs + "^pack r b;");
        fine(Checks.many("twist 3;", 70), 70);
        at(5, Checks.many("twist 3;", 70) + "^twist 3;");
        at(5, Checks.many("twist 3;", 70) + " \n^;");
        at(5, Checks.many("twist 3;", 70) + "^!");
        at(1, Checks.many("twist 3;", 69) + "^!");
        fine(Checks.many("twist 3;", 70) + "  \n", 70);
        at(5, "weave on;^weave on;");
        at(5, "weave on;^weave");
    }

    private static void tooManyLetters() {
        fine("twist 40;weave " + Checks.many("on ", 60) + ";", 2);
        weaveAt(5, Checks.many("on ", 60) + "^on;");
        weaveAt(5, Checks.many("on ", 60) + "^on p on;");
        weaveAt(5, Checks.many("on ", 60) + "^on");
        weaveAt(5, Checks.many("on ", 60) + "^on !");
        weaveAt(3, Checks.many("on ", 60) + "on ^q");
        weaveAt(1, Checks.many("on ", 60) + "[on^;");
        weaveAt(4, Checks.many("on ", 60) + Checks.many("[", 7) + "^[");
        weaveAt(5, Checks.many("on ", 59) + "^[on back];");
        weaveAt(5, "on ^twice [" + Checks.many("on ", 30) + "];");
        weaveAt(5, "^" + Checks.many("twice ", 6) + "on;on;");
        weaveAt(5, "^" + Checks.many("twice ", 7) + "on;");
        weaveAt(5, "^" + Checks.many("twice ", 7) + "on");
        weaveAt(5, "^[" + Checks.many("on ", 61) + "]");
        weaveAt(1, "[" + Checks.many("on ", 61) + "^;");
        weaveAt(1, "[" + Checks.many("on ", 61) + "^");
        fine(BASE + "weave " + Checks.many("twice ", 5) + "on twice [" + Checks.many("on ", 14)
                + "];", 5);
    }

    private static void questions() {
        questionAt(1, "^");
        questionAt(1, "  \n^");
        questionAt(1, "^firsts all");
        questionAt(1, "^all");
        questionAt(1, "^5");
        questionAt(1, "first^");
        questionAt(1, "first row-^");
        questionAt(1, "first row^");
    }

    private static void questionFaults() {
        questionAt(1, "total row ^<5");
        questionAt(1, "total ^all");
        questionAt(1, "total ^not all");
        questionAt(1, "total ^[all]");
        questionAt(1, "total ^-5");
        questionAt(1, "total^5");
        questionAt(1, "total front^0");
        questionAt(1, "total 5^row");
        questionAt(1, "often 1<2^and all");
        questionAt(1, "often 1<2 ^,");
        questionAt(1, "often all or^");
        questionAt(1, "often all or ^and all");
        questionAt(1, "often [all^");
        questionAt(1, "often [all^)");
        questionAt(1, "often ^]");
        questionAt(1, "often (^all)");
        questionAt(1, "often (1^<2)");
        questionAt(1, "often (1)^");
        questionAt(1, "often 1<2^<3");
        questionAt(1, "often 1=^=1");
        questionAt(1, "total 1234^5");
        questionAt(1, "total min^");
        questionAt(1, "total min ^[1,2]");
        questionAt(1, "total min(1,2^");
        questionAt(1, "total min(1^)");
        questionAt(1, "total min(1,2^,3)");
        questionAt(1, "total max(^,2)");
        questionAt(1, "total row ^row");
        questionAt(1, "total 5^;");
        questionAt(1, "total ^colour");
        questionAt(1, "total front^");
        questionAt(1, "total ^rowe");
        questionAt(1, "total 1 ^\t");
        questionAt(4, "total ((((((^(1");
        questionAt(4, "total front behind slant twist front behind ^front 1");
        questionAt(4, "total min(min(min(min(min(min(1,1),min(1,1)),1),1),1),min(min(min(min(min(min^(");
        questionAt(4, "often [[[[[[^[all");
        questionAt(4, "often [not [(front (^(1");
        questionAt(4, "often not not not not not not ^not all");
        questionAt(4, "often [[[[[[^not");
        questionAt(1, "often [[[[[[^al");
        questionAt(1, "total ((((((^[");
        goodQuestion("total ((((((1))))))");
        goodQuestion("often [[[[[[all]]]]]]");
        goodQuestion("often not not not not not not all and not not not not not not all");
        goodQuestion("total front front front front front front 1+front 1*front(2)");
        goodQuestion("often[row<1]and(row)>2 or not all");
        goodQuestion("most front(1)/twist 2*3-min(slant row,max(back,still))");
    }

    public static void main(String[] args) {
        badBytes();
        endsTooSoon();
        blanks();
        ownWords();
        badNumbersAndNames();
        tooManyOpen();
        tooMany();
        tooManyLetters();
        questions();
        questionFaults();
        CHECKS.end();
    }
}
